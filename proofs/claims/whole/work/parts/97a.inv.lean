/-! ALL THAT IS HELD, of the class (CS), of the reference (RS), in itself (PS). -/
def CS (V : (Nat → Int → Int)) (S : Int → Int) (Ls : Nat → Int → Int) (a u : Nat) (hb : Int → Bool) (Bs : Int → Int → Int) (Wt : (Nat → Int → Int)) (N T : Int) (B : Nat → Int) (m : Nat) (l : List Int) (fk fp : Int32) (rv : Nat) (I : (Nat → Nat → Int32)) : Prop :=
  clsV V rv I ∧ clsS V S I ∧ cU V Ls a u I ∧ cB V hb Bs I ∧ cW Wt N T I ∧ gT V I ∧ cTp B m I ∧ cl l I ∧ I 1 2 = fk ∧ I 1 3 = fp
def RS (V : (Nat → Int → Int)) (S : Int → Int) (Ls : Nat → Int → Int) (a u : Nat) (hb : Int → Bool) (Bs : Int → Int → Int) (Wt : (Nat → Int → Int)) (N T : Int) (B : Nat → Int) (m : Nat) (l : List Int) (fk fp : Int32) (I : (Nat → Nat → Int32)) : Prop :=
  refV V I ∧ hr I 84 28 S ∧ rU Ls a u I ∧ rB hb Bs I ∧ rW Wt N T I ∧ rTp B m I ∧ rl l I ∧ I 62 2 = fk ∧ I 62 3 = fp
def PS (V : (Nat → Int → Int)) (S : Int → Int) (Ls : Nat → Int → Int) (a u : Nat) (hb : Int → Bool) (Bs : Int → Int → Int) (Wt : (Nat → Int → Int)) (N T : Int) (l : List Int) (t : Int) : Prop :=
  wfV V ∧ wfS V t S ∧ (∀ i, i < a + u → wfS V t (Ls i)) ∧ (∀ b, 0 ≤ b → b < 3 → hb b = true → wfS V t (Bs b)) ∧ wfW V Wt N T ∧ l.length ≤ 7
def INV (t : Int) (h : mm_H) : Prop := ∃ (V : (Nat → Int → Int)) (S : Int → Int) (Ls : Nat → Int → Int) (a u : Nat) (hb : Int → Bool) (Bs : Int → Int → Int) (Wt : (Nat → Int → Int)) (N T : Int) (B : Nat → Int) (m : Nat) (l : List Int) (fk fp : Int32) (I : (Nat → Nat → Int32)) (J : mJ) (rv sp rr w nw : Nat),
  h = (107, I, J, mm_rf rv sp rr w nw) ∧ ((rv = 3 ∧ sp = 19) ∨ (rv = 19 ∧ sp = 3)) ∧ (rr = 3 ∨ rr = 19) ∧ wOk w nw ∧ cw J ∧ PS V S Ls a u hb Bs Wt N T l t ∧ CS V S Ls a u hb Bs Wt N T B m l fk fp rv I ∧ RS V S Ls a u hb Bs Wt N T B m l fk fp I
def CALL2 (ix iy : Nat) (as : List Value) (h : mm_H) (P : mm_H → Prop) : Prop := ∃ (x : Int32) (h1 h2 : mm_H), mm_T none 900 ix (mm_ent ix (.ref 1 :: as)) h (fun v h' => v = some (.int x) ∧ h' = h1) ∧ mm_T none 900 iy (mm_ent iy (.ref 62 :: as)) h1 (fun v h' => v = some (.int x) ∧ h' = h2) ∧ h1.1 = 107 ∧ P h2
theorem in_iN (x : Int32) : ∃ b : Int, (-2147483648 ≤ b ∧ b < 2147483648) ∧ x = iN b := ⟨x.toInt, ⟨iN_lo x, iN_hi x⟩, (iN_of x).symm⟩
section INV0
variable {V : (Nat → Int → Int)} {S : Int → Int} {Ls : Nat → Int → Int} {a u : Nat} {hb : Int → Bool} {Bs : Int → Int → Int} {Wt : (Nat → Int → Int)} {N T : Int} {B : Nat → Int} {m : Nat} {l l1 : List Int} {fk fp : Int32} {rv : Nat} {I I1 : (Nat → Nat → Int32)} {t : Int}
theorem PS_mono (h : PS V S Ls a u hb Bs Wt N T l t) {t' : Int} (ht : t ≤ t') (hl : l1.length ≤ 7) : PS V S Ls a u hb Bs Wt N T l1 t' := by
  obtain ⟨h1, h2, h3, h4, h5, h6⟩ := h
  exact ⟨h1, wfS_mono h2 ht, fun i hi => wfS_mono (h3 i hi) ht, fun b b1 b2 b3 => wfS_mono (h4 b b1 b2 b3) ht, h5, hl⟩
theorem clsV_s (h : clsV V rv I) (e : ∀ c, rv ≤ c → c ≤ rv + 11 → ¬ c = rv + 3 → ¬ c = rv + 4 → I1 c = I c) : clsV V rv I1 := by
  obtain ⟨⟨a1, a2, a3, a4, a5, a6, a7⟩, ⟨F, b1, b0⟩, b2, b3, b4, b5, b6, b7⟩ := h
  have e0 := e rv (by omega) (by omega) (by omega) (by omega)
  have e1 := e (rv + 1) (by omega) (by omega) (by omega) (by omega)
  refine ⟨⟨by rw [e0]; exact a1, by rw [e0]; exact a2, by rw [e0]; exact a3, by rw [e0]; exact a4, by rw [e0]; exact a5, by rw [e1]; exact a6, by rw [e1]; exact a7⟩, ⟨F, hr_of b1 (e _ (by omega) (by omega) (by omega) (by omega)), b0⟩, hr_of b2 (e _ (by omega) (by omega) (by omega) (by omega)), hr_of b3 (e _ (by omega) (by omega) (by omega) (by omega)), hr_of b4 (e _ (by omega) (by omega) (by omega) (by omega)), hr_of b5 (e _ (by omega) (by omega) (by omega) (by omega)), hr_of b6 (e _ (by omega) (by omega) (by omega) (by omega)), hr_of b7 (e _ (by omega) (by omega) (by omega) (by omega))⟩
theorem slt_s {X : Int → Int} {w : Int} (h : slt V X w I) (e : I1 34 = I 34) : slt V X w I1 := by
  obtain ⟨T, h1, h2⟩ := h
  exact ⟨T, fun i i1 i2 => by rw [e]; exact h1 i i1 i2, h2⟩
theorem cU_s (h : cU V Ls a u I) (e3 : I1 33 = I 33) (e4 : I1 34 = I 34) : cU V Ls a u I1 := by
  obtain ⟨h1, q, h2, h3, h4, h5, h6, h7⟩ := h
  exact ⟨h1, q, h2, by rw [e3]; exact h3, by rw [e3]; exact h4, by rw [e3]; exact h5, fun i hi => slt_s (h6 i hi) e4, fun j hj => slt_s (h7 j hj) e4⟩
theorem cB_s (h : cB V hb Bs I) (e3 : I1 33 = I 33) (e4 : I1 34 = I 34) : cB V hb Bs I1 := ⟨fun b b1 b2 => by rw [e3]; exact h.1 b b1 b2, fun b b1 b2 b3 => slt_s (h.2 b b1 b2 b3) e4⟩
theorem cW_s (h : cW Wt N T I) (e4 : I1 54 = I 54) (e5 : I1 55 = I 55) : cW Wt N T I1 := ⟨by rw [e4]; exact h.1, by rw [e4]; exact h.2.1, fun j w j1 j2 j3 => by rw [e5]; exact h.2.2 j w j1 j2 j3⟩
theorem gT_s (h : gT V I) (e4 : I1 54 5 = I 54 5) (e6 : I1 56 = I 56) (e7 : I1 57 = I 57) (e8 : I1 58 = I 58) : gT V I1 := by
  rcases h with h | ⟨h1, h2⟩
  · left; rw [e4]; exact h
  · right
    refine ⟨by rw [e4]; exact h1, fun j hj k hk => ?_⟩
    have := h2 j hj k hk
    unfold nod at this ⊢
    rw [e6, e7, e8]; exact this
theorem cTp_s (h : cTp B m I) (e1 : I1 1 1 = I 1 1) (e2 : I1 2 = I 2) : cTp B m I1 := ⟨h.1, by rw [e1]; exact h.2.1, fun k hk => by rw [e2]; exact h.2.2 k hk⟩
theorem cl_s (h : cl l I) (e5 : I1 35 = I 35) (e6 : I1 36 = I 36) : cl l I1 := ⟨by rw [e5]; exact h.1, fun z hz => by rw [e6]; exact h.2 z hz⟩
/-- the class's things stand where these rows stand -/
theorem CS_s (h : CS V S Ls a u hb Bs Wt N T B m l fk fp rv I) (hrv : rv = 3 ∨ rv = 19) (e : ∀ c, c = 1 ∨ c = 2 ∨ (rv ≤ c ∧ c ≤ rv + 11 ∧ ¬ c = rv + 3 ∧ ¬ c = rv + 4) ∨ (32 ≤ c ∧ c ≤ 34) ∨ (54 ≤ c ∧ c ≤ 58) → I1 c = I c) (hl : cl l1 I1) : CS V S Ls a u hb Bs Wt N T B m l1 fk fp rv I1 := by
  obtain ⟨h1, h2, h3, h4, h5, h6, h7, h8, h9, h10⟩ := h
  refine ⟨clsV_s h1 (fun c q1 q2 q3 q4 => e c (by omega)), clsS_of h2 (e _ (by omega)), cU_s h3 (e _ (by omega)) (e _ (by omega)), cB_s h4 (e _ (by omega)) (e _ (by omega)), cW_s h5 (e _ (by omega)) (e _ (by omega)), gT_s h6 (by rw [e 54 (by omega)]) (e _ (by omega)) (e _ (by omega)) (e _ (by omega)), cTp_s h7 (by rw [e 1 (by omega)]) (e _ (by omega)), hl, by rw [e 1 (by omega)]; exact h9, by rw [e 1 (by omega)]; exact h10⟩
theorem CS_lo (h : CS V S Ls a u hb Bs Wt N T B m l fk fp rv I) (hrv : rv = 3 ∨ rv = 19) (e : ∀ c, c < 62 → I1 c = I c) : CS V S Ls a u hb Bs Wt N T B m l fk fp rv I1 := CS_s h hrv (fun c hc => e c (by omega)) (cl_s h.2.2.2.2.2.2.2.1 (e _ (by omega)) (e _ (by omega)))
theorem rB_x {lr : List Nat} (h : rB hb Bs I) (e : xf lr I I1) (d : 105 ∉ lr ∧ 106 ∉ lr) : rB hb Bs I1 := by
  have e5 := xf_row e d.1 (by omega)
  have e6 := xf_row e d.2 (by omega)
  exact fun b b1 b2 => ⟨by rw [e5]; exact (h b b1 b2).1, fun b3 z z1 z2 => by rw [e6]; exact (h b b1 b2).2 b3 z z1 z2⟩
theorem rW_x {lr : List Nat} (h : rW Wt N T I) (e : xf lr I I1) (d : ∀ c ∈ [62, 1075, 1076, 96, 97, 98, 99, 100, 101], c ∉ lr) : rW Wt N T I1 := by
  obtain ⟨h1, h2, h3, h4, h5, h6, h7, h8⟩ := h
  exact ⟨by rw [e 62 75 (d _ (by simp)) (fun _ => d _ (by simp))]; exact h1, by rw [e 62 76 (d _ (by simp)) (fun _ => d _ (by simp))]; exact h2, hr_xf e (d _ (by simp)) (by omega) h3, hr_xf e (d _ (by simp)) (by omega) h4, hr_xf e (d _ (by simp)) (by omega) h5, hr_xf e (d _ (by simp)) (by omega) h6, hr_xf e (d _ (by simp)) (by omega) h7, hr_xf e (d _ (by simp)) (by omega) h8⟩
theorem rTp_x {lr : List Nat} (h : rTp B m I) (e : xf lr I I1) (d : 62 ∉ lr ∧ 1001 ∉ lr ∧ 63 ∉ lr) : rTp B m I1 := ⟨h.1, by rw [e 62 1 d.1 (fun _ => d.2.1)]; exact h.2.1, fun k hk => by rw [xf_row e d.2.2 (by omega)]; exact h.2.2 k hk⟩
theorem rl_x {lr : List Nat} (h : rl l I) (e : xf lr I I1) (d : 62 ∉ lr ∧ 1061 ∉ lr ∧ 88 ∉ lr) : rl l I1 := ⟨by rw [e 62 61 d.1 (fun _ => d.2.1)]; exact h.1, fun z hz => by rw [xf_row e d.2.2 (by omega)]; exact h.2 z hz⟩
def RSn : List Nat := [62, 67, 68, 78, 79, 80, 81, 82, 83, 84, 86, 105, 106, 96, 97, 98, 99, 100, 101, 63, 1046, 1047, 1048, 1049, 1050, 1018, 1021, 1057, 1058, 1075, 1076, 1001, 1002, 1003]
theorem RS_x {lr : List Nat} (h : RS V S Ls a u hb Bs Wt N T B m l fk fp I) (e : xf lr I I1) (d : ∀ c ∈ RSn, c ∉ lr) (hl : rl l1 I1) : RS V S Ls a u hb Bs Wt N T B m l1 fk fp I1 := by
  obtain ⟨h1, h2, h3, h4, h5, h6, h7, h8, h9⟩ := h
  refine ⟨refV_xf h1 e (fun c hc => d c ?_), hr_xf e (d _ (by decide)) (by omega) h2, rU_xf h3 e ⟨d _ (by decide), d _ (by decide), d _ (by decide), d _ (by decide)⟩, rB_x h4 e ⟨d _ (by decide), d _ (by decide)⟩, rW_x h5 e (fun c hc => d c ?_), rTp_x h6 e ⟨d _ (by decide), d _ (by decide), d _ (by decide)⟩, hl, by rw [e 62 2 (d _ (by decide)) (fun _ => d _ (by decide))]; exact h8, by rw [e 62 3 (d _ (by decide)) (fun _ => d _ (by decide))]; exact h9⟩
  · simp only [List.mem_cons, List.not_mem_nil, or_false] at hc
    unfold RSn
    simp only [List.mem_cons, List.not_mem_nil, or_false]
    omega
  · simp only [List.mem_cons, List.not_mem_nil, or_false] at hc
    unfold RSn
    simp only [List.mem_cons, List.not_mem_nil, or_false]
    omega
theorem RS_hi (h : RS V S Ls a u hb Bs Wt N T B m l fk fp I) (e : ∀ c, 62 ≤ c → c ≤ 106 → I1 c = I c) : RS V S Ls a u hb Bs Wt N T B m l fk fp I1 := by
  have ex0 : ∀ {c : Nat} {n : Int} {F : Int → Int}, 62 ≤ c → c ≤ 106 → hr I c n F → hr I1 c n F := fun h1 h2 h => hr_of h (e _ h1 h2)
  obtain ⟨⟨⟨a1, a2, a3, a4, a5, a6, a7⟩, b1, b2, b3, b4, b5, b6, b7, b8⟩, h2, ⟨u1, u2, u3, u4⟩, h4, ⟨w1, w2, w3, w4, w5, w6, w7, w8⟩, ⟨t1, t2, t3⟩, ⟨l2, l3⟩, h8, h9⟩ := h
  have e62 := e 62 (by omega) (by omega)
  refine ⟨⟨⟨?_, ?_, ?_, ?_, ?_, ?_, ?_⟩, ex0 (by omega) (by omega) b1, ex0 (by omega) (by omega) b2, ex0 (by omega) (by omega) b3, ex0 (by omega) (by omega) b4, ex0 (by omega) (by omega) b5, ex0 (by omega) (by omega) b6, ex0 (by omega) (by omega) b7, ex0 (by omega) (by omega) b8⟩, ex0 (by omega) (by omega) h2, ⟨u1, ?_, ?_, fun i hi z z1 z2 => by rw [e 86 (by omega) (by omega)]; exact u4 i hi z z1 z2⟩, fun b b1 b2 => ⟨by rw [e 105 (by omega) (by omega)]; exact (h4 b b1 b2).1, fun b3 z z1 z2 => by rw [e 106 (by omega) (by omega)]; exact (h4 b b1 b2).2 b3 z z1 z2⟩, ⟨?_, ?_, ex0 (by omega) (by omega) w3, ex0 (by omega) (by omega) w4, ex0 (by omega) (by omega) w5, ex0 (by omega) (by omega) w6, ex0 (by omega) (by omega) w7, ex0 (by omega) (by omega) w8⟩, ⟨t1, ?_, fun k hk => by rw [e 63 (by omega) (by omega)]; exact t3 k hk⟩, ⟨?_, fun z hz => by rw [e 88 (by omega) (by omega)]; exact l3 z hz⟩, ?_, ?_⟩
  all_goals (rw [e62]; assumption)
theorem ex_hi {lc : List Nat} (e : ex lc I I1) (d : ∀ c ∈ lc, c < 62) : ∀ c, 62 ≤ c → c ≤ 106 → I1 c = I c := fun c h1 _ => e c (fun hm => by have := d c hm; omega)
theorem xf_lo {lr : List Nat} (e : xf lr I I1) (d : ∀ c ∈ lr, 62 ≤ c) : ∀ c, c < 62 → I1 c = I c := fun c h1 => xf_row e (fun hm => by have := d c hm; omega) (by omega)
theorem PS_cOK (hP : PS V S Ls a u hb Bs Wt N T l t) (ht : t ≤ 600) (h : CS V S Ls a u hb Bs Wt N T B m l1 fk fp rv I) : cOK V S rv I := ⟨hP.1, wfS_mono hP.2.1 ht, h.1, h.2.1⟩
theorem PS_rOK (hP : PS V S Ls a u hb Bs Wt N T l t) (ht : t ≤ 600) (h : RS V S Ls a u hb Bs Wt N T B m l1 fk fp I) : rOK V S I := ⟨hP.1, wfS_mono hP.2.1 ht, h.1, h.2.1⟩
/-- the class's frame, by its rows -/
theorem CS_q {lc : List Nat} (h : CS V S Ls a u hb Bs Wt N T B m l fk fp rv I) (hrv : rv = 3 ∨ rv = 19) (e : ex lc I I1) (d : ∀ c ∈ lc, (35 ≤ c ∧ c ≤ 53) ∨ (59 ≤ c ∧ c ≤ 61) ∨ c = rv + 3 ∨ c = rv + 4) (hl : cl l1 I1) : CS V S Ls a u hb Bs Wt N T B m l1 fk fp rv I1 := CS_s h hrv (fun c hc => e c (fun hm => by have := d c hm; omega)) hl
theorem CS_q0 {lc : List Nat} (h : CS V S Ls a u hb Bs Wt N T B m l fk fp rv I) (hrv : rv = 3 ∨ rv = 19) (e : ex lc I I1) (d : ∀ c ∈ lc, (37 ≤ c ∧ c ≤ 53) ∨ (59 ≤ c ∧ c ≤ 61) ∨ c = rv + 3 ∨ c = rv + 4) : CS V S Ls a u hb Bs Wt N T B m l fk fp rv I1 := CS_s h hrv (fun c hc => e c (fun hm => by have := d c hm; omega)) (cl_s h.2.2.2.2.2.2.2.1 (e _ (fun hm => by have := d _ hm; omega)) (e _ (fun hm => by have := d _ hm; omega)))
end INV0
