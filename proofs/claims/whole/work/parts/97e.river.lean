/-! THE CALL river. -/
section RVC
variable {V : (Nat → Int → Int)} {S : Int → Int} {Ls : Nat → Int → Int} {a u : Nat} {hb : Int → Bool} {Bs : Int → Int → Int} {Wt : (Nat → Int → Int)} {N T : Int} {B B1 : Nat → Int} {m m1 : Nat} {l : List Int} {fk fp fk1 fp1 : Int32} {rv sp rr : Nat} {I I1 : (Nat → Nat → Int32)} {J J1 : mJ} {t : Int} {W : (Nat → Int → Int)} {X : Int32} {NB NL : Nat → List Int}
def LR1 : List Nat := [65, 66, 69, 72, 73, 74, 75, 76, 77, 1001, 1002, 1003, 1004, 1005, 1006, 1007, 1008, 1017, 1019, 1020, 1022, 1023, 1024, 1038, 1039, 1040, 1041, 1042, 1043, 1044, 1045, 1051, 1052, 1053]
theorem xf_R1 (h : lR1 I I1) : xf LR1 I I1 := by
  intro c k h1 h2
  unfold LR1 at h1 h2
  simp only [List.mem_cons, List.not_mem_nil, or_false] at h1 h2
  exact h c k (by omega) (by omega)
def RSv : List Nat := [62, 67, 68, 78, 79, 80, 81, 82, 83, 84, 86, 105, 106, 96, 97, 98, 99, 100, 101, 1046, 1047, 1048, 1049, 1050, 1018, 1021, 1057, 1058, 1075, 1076, 88, 1061]
theorem RS_v {lr : List Nat} (h : RS V S Ls a u hb Bs Wt N T B m l fk fp I) (e : xf lr I I1) (d : ∀ c ∈ RSv, c ∉ lr) (hT : rTp B1 m1 I1) (e2 : I1 62 2 = fk1) (e3 : I1 62 3 = fp1) : RS V S Ls a u hb Bs Wt N T B1 m1 l fk1 fp1 I1 := by
  obtain ⟨h1, h2, h3, h4, h5, h6, h7, h8, h9⟩ := h
  refine ⟨refV_xf h1 e (fun c hc => d c ?_), hr_xf e (d _ (by decide)) (by omega) h2, rU_xf h3 e ⟨d _ (by decide), d _ (by decide), d _ (by decide), d _ (by decide)⟩, rB_x h4 e ⟨d _ (by decide), d _ (by decide)⟩, rW_x h5 e (fun c hc => d c ?_), hT, rl_x h7 e ⟨d _ (by decide), d _ (by decide), d _ (by decide)⟩, e2, e3⟩
  · simp only [List.mem_cons, List.not_mem_nil, or_false] at hc
    unfold RSv
    simp only [List.mem_cons, List.not_mem_nil, or_false]
    omega
  · simp only [List.mem_cons, List.not_mem_nil, or_false] at hc
    unfold RSv
    simp only [List.mem_cons, List.not_mem_nil, or_false]
    omega
theorem CS_v (h : CS V S Ls a u hb Bs Wt N T B m l fk fp rv I) (hrv : rv = 3 ∨ rv = 19) (g : ∀ c, (rv ≤ c ∧ c ≤ rv + 11) ∨ (32 ≤ c ∧ c ≤ 36) ∨ (54 ≤ c ∧ c ≤ 58) → I1 c = I c) (hT : cTp B1 m1 I1) (e2 : I1 1 2 = fk1) (e3 : I1 1 3 = fp1) : CS V S Ls a u hb Bs Wt N T B1 m1 l fk1 fp1 rv I1 := by
  obtain ⟨h1, h2, h3, h4, h5, h6, h7, h8, h9, h10⟩ := h
  exact ⟨clsV_s h1 (fun c q1 q2 q3 q4 => g c (by omega)), clsS_of h2 (g _ (by omega)), cU_s h3 (g _ (by omega)) (g _ (by omega)), cB_s h4 (g _ (by omega)) (g _ (by omega)), cW_s h5 (g _ (by omega)) (g _ (by omega)), gT_s h6 (by rw [g 54 (by omega)]) (g _ (by omega)) (g _ (by omega)) (g _ (by omega)), hT, cl_s h8 (g _ (by omega)) (g _ (by omega)), e2, e3⟩
def K3 (I : (Nat → Nat → Int32)) : (Nat → Nat → Int32) := mm_up (mm_up (mm_up I 1 1 0) 1 2 (I 16 11)) 1 3 (I 16 12)
def K4 (I : (Nat → Nat → Int32)) : (Nat → Nat → Int32) := fX10_forget (fX3_clear (fX2_emptyBoxes (fX2_forgetActs I)))
theorem K3_o {c k : Nat} (h : ¬ (c = 1 ∧ (k = 1 ∨ k = 2 ∨ k = 3))) : K3 I c k = I c k := by
  unfold K3
  rw [up_o (by omega), up_o (by omega), up_o (by omega)]
theorem K3_1 : K3 I 1 1 = iN 0 ∧ K3 I 1 2 = I 16 11 ∧ K3 I 1 3 = I 16 12 := by
  unfold K3
  exact ⟨by rw [up_k (by omega), up_k (by omega), up_eq]; rfl, by rw [up_k (by omega), up_eq], up_eq⟩
theorem K4_o {c k : Nat} (h : ¬ (c = 33 ∧ 2 ≤ k ∧ k ≤ 5) ∧ ¬ (c = 35 ∧ k = 1) ∧ ¬ (c = 54 ∧ (k = 5 ∨ k = 9))) : K4 I c k = I c k := by
  unfold K4 fX10_forget fX3_clear fX2_emptyBoxes fX2_forgetActs
  rw [up_o (by omega), up_o (by omega), up_o (by omega), up_o (by omega), up_o (by omega), up_o (by omega), up_o (by omega)]
theorem K4_v : K4 I 33 2 = iN 0 ∧ K4 I 33 3 = iN 0 ∧ K4 I 33 4 = iN 0 ∧ K4 I 33 5 = iN 0 ∧ K4 I 35 1 = iN 0 ∧ K4 I 54 5 = iN 0 ∧ K4 I 54 9 = iN 0 := by
  unfold K4 fX10_forget fX3_clear fX2_emptyBoxes fX2_forgetActs
  refine ⟨?_, ?_, ?_, ?_, ?_, ?_, ?_⟩
  · rw [up_a (by omega), up_a (by omega), up_a (by omega), up_eq]; rfl
  · rw [up_a (by omega), up_a (by omega), up_a (by omega), up_k (by omega), up_k (by omega), up_k (by omega), up_eq]; rfl
  · rw [up_a (by omega), up_a (by omega), up_a (by omega), up_k (by omega), up_k (by omega), up_eq]; rfl
  · rw [up_a (by omega), up_a (by omega), up_a (by omega), up_k (by omega), up_eq]; rfl
  · rw [up_a (by omega), up_a (by omega), up_eq]; rfl
  · rw [up_eq]; rfl
  · rw [up_k (by omega), up_eq]; rfl
theorem cl_rvF {n : Nat} (h : fX4_read_2 n (I 1 1) sp I J rr = some (iN 0, I1, J1)) : fX11_river n I J rv sp rr = some (iN (-1), K3 I1, J1, rv, sp, sp) := by
  rw [fX11_river, h, Option.bind_some]
  exact ite_p rfl
theorem cl_rvS {n : Nat} {K : (Nat → Nat → Int32)} (h : fX4_read_2 n (I 1 1) sp I J rr = some (iN 1, I1, J1)) (hb : fX7_begin n sp (K3 I1) rv = some K) : fX11_river n I J rv sp rr = some (K4 K sp 4, K4 K, J1, sp, rv, sp) := by
  rw [fX11_river, h, Option.bind_some]
  dsimp only
  rw [ite_n (show ¬ (iN 1 = 0) from by decide)]
  show (fX7_begin n sp (K3 I1) rv).bind _ = _
  rw [hb, Option.bind_some]
  rfl
theorem rf_rvF {n : Nat} (h : fX12_readAll n I J = some (I1, J1)) {k : Int} (hk : 1 ≤ k ∧ k ≤ 4) (h2 : I1 62 2 = iN k) : fX12_river n I J = some (iN (-1), I1, J1) := by
  rw [fX12_river, h, Option.bind_some]
  dsimp only
  exact ite_p (by rw [h2]; show iN 0 < iN k; rw [iN_lt (by omega) (by omega) (by omega) (by omega)]; omega)
theorem rf_rvS {n : Nat} (h : fX12_readAll n I J = some (I1, J1)) (h2 : I1 62 2 = iN 0) : fX12_river n I J = rTail n I1 J1 := by
  rw [fX12_river, h, Option.bind_some]
  dsimp only
  rw [ite_n (by rw [h2]; decide)]
  rfl
theorem cw_of (h : cw J) (e : ∀ k, J1 17 k = J 17 k) : cw J1 := fun k hk => by rw [e]; exact h k hk
theorem cBd_of (h : cBd W X NB NL rv I J) (hrv : rv = 3 ∨ rv = 19) (e : ∀ c k, 3 ≤ c → c ≤ 31 → I1 c k = I c k) : cBd W X NB NL rv I1 J := by
  obtain ⟨h0, ⟨a1, a2, a3, a4, a5, a6, a7, a8, a9, a10⟩, ⟨b1, b2, b3, b4, b5, b6, b7⟩, n1, n2⟩ := h
  have g : ∀ {c : Nat} {n : Int} {F : Int → Int}, 3 ≤ c → c ≤ 31 → hr I c n F → hr I1 c n F := fun q1 q2 q => hr_of q (funext fun k => e _ k q1 q2)
  refine ⟨by rw [e _ _ (by omega) (by omega)]; exact h0, ⟨?_, ?_, ?_, ?_, ?_, ?_, ?_, ?_, ?_, ?_⟩, ⟨g (by omega) (by omega) b1, g (by omega) (by omega) b2, g (by omega) (by omega) b3, g (by omega) (by omega) b4, g (by omega) (by omega) b5, g (by omega) (by omega) b6, g (by omega) (by omega) b7⟩, n1, n2⟩
  all_goals (rw [e _ _ (by omega) (by omega)]; assumption)
end RVC
theorem C_river {t : Int} (ht : 0 ≤ t ∧ t < 600) {h : mm_H} (hi : INV t h) : CALL2 162 250 [] h (INV (t + 1)) := by
  obtain ⟨V, S, Ls, a, u, hb, Bs, Wt, N, T, B, m, l, fk, fp, I, J, rv, sp, rr, w, nw, rfl, hrs, hrr, hww, hcw, hP, hC, hR⟩ := hi
  have hrv : rv = 3 ∨ rv = 19 := by omega
  have hsp : sp = 3 ∨ sp = 19 := by omega
  obtain ⟨n, hn⟩ : ∃ n : Nat, 900000 ≤ n := ⟨_, Nat.le_refl _⟩
  rcases RD_all (B := B) (m := m) (I := I) (J := J) (I' := I) (J' := J) hsp hC.2.2.2.2.2.2.1 hcw hR.2.2.2.2.2.1 (n := n) (by omega) (rr := rr) with ⟨I1, J1, -, -, c1, -, -, c4, c5, -⟩ | ⟨-, -, -, -, -, I1, J1, -, -, c1, -, -, c4, c5, -⟩
  · have hrT : rTp B m (K3 I1) := by
      refine ⟨hR.2.2.2.2.2.1.1, ?_, fun k hk => ?_⟩
      · rw [K3_o (by omega), c4 _ _ (by omega) (by omega)]; exact hR.2.2.2.2.2.1.2.1
      · rw [K3_o (by omega), c4 _ _ (by omega) (by omega)]; exact hR.2.2.2.2.2.1.2.2 k hk
    rcases RD_all (B := B) (m := m) (I := I) (J := J) (I' := K3 I1) (J' := J1) hsp hC.2.2.2.2.2.2.1 hcw hrT (n := n) (by omega) (rr := rr) with ⟨I1x, J1x, I2, J2, d1, d2, ⟨k, pl, f0, f1, f2, f3, f4⟩, -, -, d6, d7, d8⟩ | ⟨_, _, _, _, _, I1x, J1x, I2, J2, d1, -⟩
    · rw [c1] at d1
      injection d1 with d1
      obtain ⟨-, rfl, rfl⟩ : True ∧ I1 = I1x ∧ J1 = J1x := ⟨trivial, congrArg (fun q => q.2.1) d1, congrArg (fun q => q.2.2) d1⟩
      have T1 := tX11_river 792 n I J rv sp rr w nw hrv hsp hrr _ (cl_rvF (rv := rv) c1)
      have T2 := tX12_river 893 n (K3 I1) J1 rv sp sp w nw _ (rf_rvF d2 f0 f3)
      have hC1 : CS V S Ls a u hb Bs Wt N T B 0 l (iN k) (iN pl) rv (K3 I1) := CS_v hC hrv (fun c hc => funext fun j => by rw [K3_o (by omega), c4 _ _ (by omega) (by omega)]) ⟨by omega, K3_1.1, fun k hk => by omega⟩ (by rw [K3_1.2.1]; exact f1) (by rw [K3_1.2.2]; exact f2)
      have hR1 : RS V S Ls a u hb Bs Wt N T B m l fk fp (K3 I1) := RS_hi hR (fun c h1 h2 => funext fun j => by rw [K3_o (by omega), c4 _ _ (by omega) (by omega)])
      have hR2 : RS V S Ls a u hb Bs Wt N T B 0 l (iN k) (iN pl) I2 := RS_v hR1 (xf_R1 d6) (by decide) ⟨by omega, d8, fun k hk => by omega⟩ f3 f4
      have hC2 := CS_lo hC1 hrv (xf_lo (xf_R1 d6) (by decide))
      exact ⟨_, _, _, T1, T2, rfl, V, S, Ls, a, u, hb, Bs, Wt, N, T, B, 0, l, iN k, iN pl, I2, J2, rv, sp, sp, w, nw, rfl, hrs, hsp, hww, cw_of hcw (fun k => by rw [d7 _ _ (by omega) (by omega), c5 _ _ (by omega) (by omega)]), PS_mono hP (by omega) hP.2.2.2.2.2, hC2, hR2⟩
    · rw [c1] at d1
      injection d1 with d1
      exact absurd (congrArg (fun q => q.1) d1) (by dsimp only; decide)
  · rcases RD_all (B := B) (m := m) (I := I) (J := J) (I' := I) (J' := J) hsp hC.2.2.2.2.2.2.1 hcw hR.2.2.2.2.2.1 (n := n) (by omega) (rr := rr) with ⟨I1x, J1x, I2, J2, d1, -⟩ | ⟨W0', X0, NB0, NL0, p0, I1x, J1x, I2x, J2x, d1, -, e3, -⟩
    · rw [c1] at d1
      injection d1 with d1
      exact absurd (congrArg (fun q => q.1) d1) (by dsimp only; decide)
    rw [c1] at d1
    injection d1 with d1
    obtain ⟨-, rfl, rfl⟩ : True ∧ I1 = I1x ∧ J1 = J1x := ⟨trivial, congrArg (fun q => q.2.1) d1, congrArg (fun q => q.2.2) d1⟩
    obtain ⟨K, b1, b2, -⟩ := cl_begin hsp e3.1 (cBd_of (I1 := K3 I1) e3.2.2.1 hsp (fun c k q1 q2 => K3_o (I := I1) (by omega))) (n := n) (rv := rv) (by omega)
    have kfr : ∀ c j, ¬ c = 16 → ¬ (sp ≤ c ∧ c ≤ sp + 12) → ¬ c = 1 → ¬ c = 32 → ¬ c = 33 → ¬ c = 35 → ¬ c = 54 → K4 K c j = I c j := fun c j q1 q2 q3 q4 q5 q6 q7 => by rw [K4_o (by omega), b2 c (by simp; omega), K3_o (by omega), c4 _ _ q1 q2]
    have hrT : rTp B m (K4 K) := by
      refine ⟨hR.2.2.2.2.2.1.1, ?_, fun k hk => ?_⟩
      · rw [kfr _ _ (by omega) (by omega) (by omega) (by omega) (by omega) (by omega) (by omega)]; exact hR.2.2.2.2.2.1.2.1
      · rw [kfr _ _ (by omega) (by omega) (by omega) (by omega) (by omega) (by omega) (by omega)]; exact hR.2.2.2.2.2.1.2.2 k hk
    rcases RD_all (B := B) (m := m) (I := I) (J := J) (I' := K4 K) (J' := J1) hsp hC.2.2.2.2.2.2.1 hcw hrT (n := n) (by omega) (rr := rr) with ⟨I1x, J1x, I2, J2, d1, -⟩ | ⟨W, X, NB, NL, p, I1x, J1x, I2, J2, d1, d2, d3, -, -, d6, d7, d8⟩
    · rw [c1] at d1
      injection d1 with d1
      exact absurd (congrArg (fun q => q.1) d1) (by dsimp only; decide)
    rw [c1] at d1
    injection d1 with d1
    obtain ⟨-, rfl, rfl⟩ : True ∧ I1 = I1x ∧ J1 = J1x := ⟨trivial, congrArg (fun q => q.2.1) d1, congrArg (fun q => q.2.2) d1⟩
    obtain ⟨s1, s2, s3, s4, s5, s6, s7, s8⟩ := d3
    have hBd := cBd_of (I1 := K3 I1) s3 hsp (fun c k q1 q2 => K3_o (I := I1) (c := c) (k := k) (by omega))
    obtain ⟨Kx, b1x, b2x, b3⟩ := cl_begin hsp s1 hBd (n := n) (rv := rv) (by omega)
    rw [b1] at b1x
    injection b1x with b1x
    subst b1x
    obtain ⟨I3, r1, r2, r3, ⟨r4, r5, r6, r7⟩, r8, r9⟩ := rf_fin s1 s4 (n := n) (by omega)
    have T1 := tX11_river 792 n I J rv sp rr w nw hrv hsp hrr _ (cl_rvS (rv := rv) c1 b1)
    have e4 : K4 K sp 4 = iN (W 0 2) := by
      rw [K4_o (by omega), b2 sp (by simp; omega)]; exact hBd.2.1.2.2.2.2.1
    rw [e4] at T1
    have T2 := tX12_river 893 n (K4 K) J1 sp rv sp w nw _ ((rf_rvS d2 s2.2.2).trans r1)
    have hlo : ∀ c j, c < 62 → I3 c j = K4 K c j := fun c j q => by rw [r9 _ _ (by omega) (by omega), d6 _ _ (by omega) (by omega)]
    have h62 : ∀ c j, 62 ≤ c → ¬ (c = 65 ∨ c = 66 ∨ c = 67 ∨ c = 68 ∨ c = 69 ∨ (72 ≤ c ∧ c ≤ 84) ∨ c = 105) → (c = 62 → j = 76) → I3 c j = I c j := fun c j q1 q2 q3 => by rw [r9 _ _ (by omega) (by omega), d6 _ _ (by omega) (by omega), kfr _ _ (by omega) (by omega) (by omega) (by omega) (by omega) (by omega) (by omega)]
    have hvW : clsV (vW W) sp I3 := by
      refine clsV_s (clsV_W s1 hBd) (fun c q1 q2 q3 q4 => funext fun j => ?_)
      rw [hlo _ _ (by omega), K4_o (by omega), b2 c (by simp; omega)]
    have hsW : clsS (vW W) (sW W) I3 := clsS_of b3 (funext fun j => by rw [hlo _ _ (by omega), K4_o (by omega)])
    have h5476 : I3 54 10 = iN T := by rw [hlo _ _ (by omega), K4_o (by omega), b2 54 (by simp), K3_o (by omega), c4 _ _ (by omega) (by omega)]; exact hC.2.2.2.2.1.2.1
    have h6276 : I3 62 76 = iN T := by rw [h62 _ _ (by omega) (by omega) (by omega)]; exact hR.2.2.2.2.1.2.1
    have hC2 : CS (vW W) (sW W) Ls 0 0 (fun _ => false) Bs Wt 0 T B 0 [] (iN 0) (iN (-1)) sp I3 := by
      refine ⟨hvW, hsW, ⟨by omega, 0, by omega, ?_, ?_, ?_, fun i hi => by omega, fun j hj => by omega⟩, ⟨fun b _ _ => ?_, fun b _ _ h => by cases h⟩, ⟨?_, h5476, fun j w q1 q2 _ => by omega⟩, Or.inl ?_, ⟨by omega, ?_, fun k hk => by omega⟩, ⟨?_, fun z hz => by cases hz⟩, ?_, ?_⟩
      · rw [hlo _ _ (by omega)]; exact K4_v.2.1
      · rw [hlo _ _ (by omega)]; exact K4_v.2.2.1
      · rw [hlo _ _ (by omega)]; exact K4_v.2.2.2.1
      · rw [hlo _ _ (by omega), K4_v.1]; exact bit_0
      · rw [hlo _ _ (by omega)]; exact K4_v.2.2.2.2.2.2
      · rw [hlo _ _ (by omega)]; exact K4_v.2.2.2.2.2.1
      · rw [hlo _ _ (by omega), K4_o (by omega), b2 1 (by simp)]; exact K3_1.1
      · rw [hlo _ _ (by omega)]; exact K4_v.2.2.2.2.1
      · rw [hlo _ _ (by omega), K4_o (by omega), b2 1 (by simp), K3_1.2.1]; exact s6
      · rw [hlo _ _ (by omega), K4_o (by omega), b2 1 (by simp), K3_1.2.2]; exact s7
    have hR2 : RS (vW W) (sW W) Ls 0 0 (fun _ => false) Bs Wt 0 T B 0 [] (iN 0) (iN (-1)) I3 := by
      refine ⟨r2, r3, ⟨by omega, r4, r5, fun i hi => by omega⟩, fun b q1 q2 => ⟨?_, fun h => by cases h⟩, ⟨r6, h6276, fun z q1 q2 => by omega, fun z q1 q2 => by omega, fun z q1 q2 => by omega, fun z q1 q2 => by omega, fun z q1 q2 => by omega, fun z q1 q2 => by omega⟩, ⟨by omega, ?_, fun k hk => by omega⟩, ⟨r7, fun z hz => by cases hz⟩, ?_, ?_⟩
      · exact r8 b q1 q2
      · rw [r9 _ _ (by omega) (by omega)]; exact d8
      · rw [r9 _ _ (by omega) (by omega)]; exact s2.2.2
      · rw [r9 _ _ (by omega) (by omega)]; exact s8
    have hWf : wfW (vW W) Wt 0 T := ⟨by omega, hP.2.2.2.2.1.2.1, fun j q1 q2 => by omega⟩
    exact ⟨_, _, _, T1, T2, rfl, vW W, sW W, Ls, 0, 0, fun _ => false, Bs, Wt, 0, T, B, 0, [], iN 0, iN (-1), I3, J2, sp, rv, sp, w, nw, rfl, by omega, hsp, hww, cw_of hcw (fun k => by rw [d7 _ _ (by omega) (by omega), c5 _ _ (by omega) (by omega)]), ⟨wfV_W s1, wfS_W s1 (by omega), fun i hi => by omega, fun b _ _ h => (by cases h), hWf, by simp⟩, hC2, hR2⟩
