/-! THE CALLS that change what is held (written by gen97d.py). -/
section ACT
variable {V : (Nat → Int → Int)} {S S1 : Int → Int} {Ls Ls1 : Nat → Int → Int} {a u a1 u1 : Nat} {hb hb1 : Int → Bool} {Bs Bs1 : Int → Int → Int} {Wt Wt1 : (Nat → Int → Int)} {N T N1 T1 : Int} {B B1 : Nat → Int} {m m1 : Nat} {l : List Int} {fk fp : Int32} {rv : Nat} {I I1 : (Nat → Nat → Int32)} {t : Int}
theorem CS_a {lc : List Nat} (h : CS V S Ls a u hb Bs Wt N T B m l fk fp rv I) (hrv : rv = 3 ∨ rv = 19) (e : ex lc I I1) (d : ∀ c ∈ lc, (32 ≤ c ∧ c ≤ 34) ∨ c = rv + 3 ∨ c = rv + 4) (hS : clsS V S1 I1) (hU : cU V Ls1 a1 u1 I1) (hB : cB V hb1 Bs1 I1) : CS V S1 Ls1 a1 u1 hb1 Bs1 Wt N T B m l fk fp rv I1 := by
  obtain ⟨h1, h2, h3, h4, h5, h6, h7, h8, h9, h10⟩ := h
  have g : ∀ c, ¬ ((32 ≤ c ∧ c ≤ 34) ∨ c = rv + 3 ∨ c = rv + 4) → I1 c = I c := fun c hc => e c (fun hm => hc (d c hm))
  exact ⟨clsV_s h1 (fun c q1 q2 q3 q4 => g c (by omega)), hS, hU, hB, cW_s h5 (g _ (by omega)) (g _ (by omega)), gT_s h6 (by rw [g 54 (by omega)]) (g _ (by omega)) (g _ (by omega)) (g _ (by omega)), cTp_s h7 (by rw [g 1 (by omega)]) (g _ (by omega)), cl_s h8 (g _ (by omega)) (g _ (by omega)), by rw [g 1 (by omega)]; exact h9, by rw [g 1 (by omega)]; exact h10⟩
theorem CS_t (h : CS V S Ls a u hb Bs Wt N T B m l fk fp rv I) (hrv : rv = 3 ∨ rv = 19) (e : ex [1, 2] I I1) (e2 : I1 1 2 = I 1 2) (e3 : I1 1 3 = I 1 3) (hT : cTp B1 m1 I1) : CS V S Ls a u hb Bs Wt N T B1 m1 l fk fp rv I1 := by
  obtain ⟨h1, h2, h3, h4, h5, h6, h7, h8, h9, h10⟩ := h
  have g : ∀ c, ¬ (c = 1 ∨ c = 2) → I1 c = I c := fun c hc => e c (fun hm => hc (by simpa using hm))
  exact ⟨clsV_s h1 (fun c q1 q2 q3 q4 => g c (by omega)), clsS_of h2 (g _ (by omega)), cU_s h3 (g _ (by omega)) (g _ (by omega)), cB_s h4 (g _ (by omega)) (g _ (by omega)), cW_s h5 (g _ (by omega)) (g _ (by omega)), gT_s h6 (by rw [g 54 (by omega)]) (g _ (by omega)) (g _ (by omega)) (g _ (by omega)), hT, cl_s h8 (g _ (by omega)) (g _ (by omega)), by rw [e2]; exact h9, by rw [e3]; exact h10⟩
theorem gT_w {lc : List Nat} (h : gT V I) (e : ex lc I I1) (e5 : I1 54 5 = I 54 5) (d : ∀ c ∈ [56, 57, 58], c ∉ lc) : gT V I1 := gT_s h e5 (e _ (d _ (by simp))) (e _ (d _ (by simp))) (e _ (d _ (by simp)))
def RSa : List Nat := [62, 67, 68, 78, 79, 80, 81, 82, 83, 96, 97, 98, 99, 100, 101, 63, 1046, 1047, 1048, 1049, 1050, 1018, 1021, 1075, 1076, 1001, 1002, 1003, 88, 1061]
theorem RS_a {lr : List Nat} (h : RS V S Ls a u hb Bs Wt N T B m l fk fp I) (e : xf lr I I1) (d : ∀ c ∈ RSa, c ∉ lr) (hS : hr I1 84 28 S1) (hU : rU Ls1 a1 u1 I1) (hB : rB hb1 Bs1 I1) : RS V S1 Ls1 a1 u1 hb1 Bs1 Wt N T B m l fk fp I1 := by
  obtain ⟨h1, h2, h3, h4, h5, h6, h7, h8, h9⟩ := h
  refine ⟨refV_xf h1 e (fun c hc => d c ?_), hS, hU, hB, rW_x h5 e (fun c hc => d c ?_), rTp_x h6 e ⟨d _ (by decide), d _ (by decide), d _ (by decide)⟩, rl_x h7 e ⟨d _ (by decide), d _ (by decide), d _ (by decide)⟩, by rw [e 62 2 (d _ (by decide)) (fun _ => d _ (by decide))]; exact h8, by rw [e 62 3 (d _ (by decide)) (fun _ => d _ (by decide))]; exact h9⟩
  · simp only [List.mem_cons, List.not_mem_nil, or_false] at hc
    unfold RSa
    simp only [List.mem_cons, List.not_mem_nil, or_false]
    omega
  · simp only [List.mem_cons, List.not_mem_nil, or_false] at hc
    unfold RSa
    simp only [List.mem_cons, List.not_mem_nil, or_false]
    omega
def RSw : List Nat := [62, 67, 68, 78, 79, 80, 81, 82, 83, 84, 86, 105, 106, 63, 1046, 1047, 1048, 1049, 1050, 1018, 1021, 1057, 1058, 1001, 1002, 1003, 88, 1061]
theorem RS_w {lr : List Nat} (h : RS V S Ls a u hb Bs Wt N T B m l fk fp I) (e : xf lr I I1) (d : ∀ c ∈ RSw, c ∉ lr) (hW : rW Wt1 N1 T1 I1) : RS V S Ls a u hb Bs Wt1 N1 T1 B m l fk fp I1 := by
  obtain ⟨h1, h2, h3, h4, h5, h6, h7, h8, h9⟩ := h
  refine ⟨refV_xf h1 e (fun c hc => d c ?_), hr_xf e (d _ (by decide)) (by omega) h2, rU_xf h3 e ⟨d _ (by decide), d _ (by decide), d _ (by decide), d _ (by decide)⟩, rB_x h4 e ⟨d _ (by decide), d _ (by decide)⟩, hW, rTp_x h6 e ⟨d _ (by decide), d _ (by decide), d _ (by decide)⟩, rl_x h7 e ⟨d _ (by decide), d _ (by decide), d _ (by decide)⟩, by rw [e 62 2 (d _ (by decide)) (fun _ => d _ (by decide))]; exact h8, by rw [e 62 3 (d _ (by decide)) (fun _ => d _ (by decide))]; exact h9⟩
  simp only [List.mem_cons, List.not_mem_nil, or_false] at hc
  unfold RSw
  simp only [List.mem_cons, List.not_mem_nil, or_false]
  omega
def RSt : List Nat := [62, 67, 68, 78, 79, 80, 81, 82, 83, 84, 86, 105, 106, 96, 97, 98, 99, 100, 101, 1046, 1047, 1048, 1049, 1050, 1018, 1021, 1057, 1058, 1075, 1076, 1002, 1003, 88, 1061]
theorem RS_t {lr : List Nat} (h : RS V S Ls a u hb Bs Wt N T B m l fk fp I) (e : xf lr I I1) (d : ∀ c ∈ RSt, c ∉ lr) (hT : rTp B1 m1 I1) : RS V S Ls a u hb Bs Wt N T B1 m1 l fk fp I1 := by
  obtain ⟨h1, h2, h3, h4, h5, h6, h7, h8, h9⟩ := h
  refine ⟨refV_xf h1 e (fun c hc => d c ?_), hr_xf e (d _ (by decide)) (by omega) h2, rU_xf h3 e ⟨d _ (by decide), d _ (by decide), d _ (by decide), d _ (by decide)⟩, rB_x h4 e ⟨d _ (by decide), d _ (by decide)⟩, rW_x h5 e (fun c hc => d c ?_), hT, rl_x h7 e ⟨d _ (by decide), d _ (by decide), d _ (by decide)⟩, by rw [e 62 2 (d _ (by decide)) (fun _ => d _ (by decide))]; exact h8, by rw [e 62 3 (d _ (by decide)) (fun _ => d _ (by decide))]; exact h9⟩
  · simp only [List.mem_cons, List.not_mem_nil, or_false] at hc
    unfold RSt
    simp only [List.mem_cons, List.not_mem_nil, or_false]
    omega
  · simp only [List.mem_cons, List.not_mem_nil, or_false] at hc
    unfold RSt
    simp only [List.mem_cons, List.not_mem_nil, or_false]
    omega
theorem PS_a (h : PS V S Ls a u hb Bs Wt N T l t) (hS : wfS V (t + 1) S1) (hL : ∀ i, i < a1 + u1 → wfS V t (Ls1 i)) (hB : ∀ b, 0 ≤ b → b < 3 → hb1 b = true → wfS V t (Bs1 b)) : PS V S1 Ls1 a1 u1 hb1 Bs1 Wt N T l (t + 1) :=
  ⟨h.1, hS, fun i hi => wfS_mono (hL i hi) (by omega), fun b b1 b2 b3 => wfS_mono (hB b b1 b2 b3) (by omega), h.2.2.2.2.1, h.2.2.2.2.2⟩
theorem PS_w (h : PS V S Ls a u hb Bs Wt N T l t) (hW : wfW V Wt1 N1 T1) : PS V S Ls a u hb Bs Wt1 N1 T1 l (t + 1) :=
  ⟨h.1, wfS_mono h.2.1 (by omega), fun i hi => wfS_mono (h.2.2.1 i hi) (by omega), fun b b1 b2 b3 => wfS_mono (h.2.2.2.1 b b1 b2 b3) (by omega), hW, h.2.2.2.2.2⟩
theorem wf_Lact (hau : a + u ≤ 40) (hS : wfS V t S) (h : ∀ i, i < a + u → wfS V t (Ls i)) : ∀ i, i < aact a + 0 → wfS V t (Lact Ls a S i) := by
  intro i hi
  unfold aact at hi
  unfold Lact
  by_cases c : a < 40
  · rw [if_pos c] at hi
    rw [if_pos c]
    by_cases c2 : i = a
    · rw [if_pos c2]; exact hS
    · rw [if_neg c2]; exact h i (by omega)
  · rw [if_neg c] at hi
    rw [if_neg c]
    by_cases c2 : i = 39
    · rw [if_pos c2]; exact hS
    · rw [if_neg c2]; exact h (i + 1) (by omega)
theorem wf_Lswp {k : Nat} (hS : wfS V t S) (h : ∀ i, i < a + u → wfS V t (Ls i)) : ∀ i, i < a + u → wfS V t (Lswp Ls k S i) := by
  intro i hi
  unfold Lswp
  by_cases c2 : i = k
  · rw [if_pos c2]; exact hS
  · rw [if_neg c2]; exact h i hi
end ACT
theorem C_stroke {t : Int} (ht : 0 ≤ t ∧ t < 600) {h : mm_H} (hi : INV t h) (x1 x2 x3 : Int32) : CALL2 168 269 [.int x1, .int x2, .int x3] h (INV (t + 1)) := by
  obtain ⟨V, S, Ls, a, u, hb, Bs, Wt, N, T, B, m, l, fk, fp, I, J, rv, sp, rr, w, nw, rfl, hrs, hrr, hww, hcw, hP, hC, hR⟩ := hi
  obtain ⟨z1, hz1, rfl⟩ := in_iN x1
  obtain ⟨z2, hz2, rfl⟩ := in_iN x2
  have hrv : rv = 3 ∨ rv = 19 := by omega
  obtain ⟨n, hn⟩ : ∃ n : Nat, 900000 ≤ n := ⟨_, Nat.le_refl _⟩
  have hcO := PS_cOK hP (by omega) hC
  have hrO0 := PS_rOK hP (by omega) hR
  have cc := cl_Stroke hrv hcO hC.2.2.1 hC.2.2.2.1 hz1 hz2 (x := x3) (n := n) (by omega)
  by_cases hk : kSt V S z1 z2 x3
  · obtain ⟨I1, c1, c2, c3, c4, c5⟩ := cc.1 hk
    have hro : 0 ≤ sOne S (4 + z1) + (if x3 = iN 0 then -1 else 1) ∧ sOne S (4 + z1) + (if x3 = iN 0 then -1 else 1) ≤ V 0 1 := by
      have hw4 := hP.2.1.1 z1 hk.1.1 hk.1.2
      have hu := hP.1.1
      have hq1 := hk.1
      rw [sOne_lo (by omega)]
      by_cases hx : x3 = iN 0
      · have := hk.2.2.1 hx
        rw [if_pos hx]; omega
      · have := hk.2.2.2 hx
        rw [if_neg hx]; omega
    have T1 := tX11_stroke 895 n (iN z1) (iN z2) x3 I J rv sp rr w nw hrv _ c1
    have hR1 := RS_hi hR (ex_hi c2 (by intro c hc; simp only [List.mem_cons, List.not_mem_nil, or_false] at hc; omega))
    have hrO := PS_rOK hP (by omega) hR1
    obtain ⟨I2, d1, d2, d3, d4⟩ := (rf_Stroke hrO hR1.2.2.1 hz1 hz2 (x := x3) (n := n) (by omega)).1 hk
    have T2 := tX12_stroke 896 n (iN z1) (iN z2) x3 I1 J rv sp rr w nw _ d1
    have hC2 := CS_lo (CS_a hC hrv c2 (by intro c hc; simp only [List.mem_cons, List.not_mem_nil, or_false] at hc; omega) c3 c4 c5) hrv (xf_lo d2 (by decide))
    have hR2 := RS_a hR1 d2 (by decide) d3 d4 (rB_x hR1.2.2.2.1 d2 (by decide))
    exact ⟨_, _, _, T1, T2, rfl, V, _, _, _, _, hb, Bs, Wt, N, T, B, m, l, fk, fp, I2, J, rv, sp, rr, w, nw, rfl, hrs, hrr, hww, hcw, PS_a hP (wfS_sk hP.1 (wfS_one hP.1 hP.2.1) hk.1.1 hk.1.2 (hro)) (wf_Lact hC.2.2.1.1 hP.2.1 hP.2.2.1) hP.2.2.2.1, hC2, hR2⟩
  · have c1 := cc.2 hk
    have T1 := tX11_stroke 895 n (iN z1) (iN z2) x3 I J rv sp rr w nw hrv _ c1
    have d1 := (rf_Stroke hrO0 hR.2.2.1 hz1 hz2 (x := x3) (n := n) (by omega)).2 hk
    have T2 := tX12_stroke 896 n (iN z1) (iN z2) x3 I J rv sp rr w nw _ d1
    exact ⟨_, _, _, T1, T2, rfl, V, S, Ls, a, u, hb, Bs, Wt, N, T, B, m, l, fk, fp, I, J, rv, sp, rr, w, nw, rfl, hrs, hrr, hww, hcw, PS_mono hP (by omega) hP.2.2.2.2.2, hC, hR⟩
theorem C_stow {t : Int} (ht : 0 ≤ t ∧ t < 600) {h : mm_H} (hi : INV t h) (x1 x2 : Int32) : CALL2 170 272 [.int x1, .int x2] h (INV (t + 1)) := by
  obtain ⟨V, S, Ls, a, u, hb, Bs, Wt, N, T, B, m, l, fk, fp, I, J, rv, sp, rr, w, nw, rfl, hrs, hrr, hww, hcw, hP, hC, hR⟩ := hi
  obtain ⟨z1, hz1, rfl⟩ := in_iN x1
  obtain ⟨z2, hz2, rfl⟩ := in_iN x2
  have hrv : rv = 3 ∨ rv = 19 := by omega
  obtain ⟨n, hn⟩ : ∃ n : Nat, 900000 ≤ n := ⟨_, Nat.le_refl _⟩
  have hcO := PS_cOK hP (by omega) hC
  have hrO0 := PS_rOK hP (by omega) hR
  have cc := cl_StowM hrv hcO hC.2.2.1 hC.2.2.2.1 hz1 hz2 (n := n) (by omega)
  by_cases hk : kSw V S z1 z2
  · obtain ⟨I1, c1, c2, c3, c4, c5⟩ := cc.1 hk
    have T1 := tX11_stow 895 n (iN z1) (iN z2) I J rv sp rr w nw hrv _ c1
    have hR1 := RS_hi hR (ex_hi c2 (by intro c hc; simp only [List.mem_cons, List.not_mem_nil, or_false] at hc; omega))
    have hrO := PS_rOK hP (by omega) hR1
    obtain ⟨I2, d1, d2, d3, d4⟩ := (rf_StowM hrO hR1.2.2.1 hz1 hz2 (n := n) (by omega)).1 hk
    have T2 := tX12_stow 898 n (iN z1) (iN z2) I1 J rv sp rr w nw _ d1
    have hC2 := CS_lo (CS_a hC hrv c2 (by intro c hc; simp only [List.mem_cons, List.not_mem_nil, or_false] at hc; omega) c3 c4 c5) hrv (xf_lo d2 (by decide))
    have hR2 := RS_a hR1 d2 (by decide) d3 d4 (rB_x hR1.2.2.2.1 d2 (by decide))
    exact ⟨_, _, _, T1, T2, rfl, V, _, _, _, _, hb, Bs, Wt, N, T, B, m, l, fk, fp, I2, J, rv, sp, rr, w, nw, rfl, hrs, hrr, hww, hcw, PS_a hP (wfS_mono (wfS_ld hP.1 hP.2.1 hk.1 (by have := hk.2.1; omega)) (by omega)) (wf_Lact hC.2.2.1.1 hP.2.1 hP.2.2.1) hP.2.2.2.1, hC2, hR2⟩
  · have c1 := cc.2 hk
    have T1 := tX11_stow 895 n (iN z1) (iN z2) I J rv sp rr w nw hrv _ c1
    obtain ⟨I2, d1, d2⟩ := (rf_StowM hrO0 hR.2.2.1 hz1 hz2 (n := n) (by omega)).2 hk
    have T2 := tX12_stow 898 n (iN z1) (iN z2) I J rv sp rr w nw _ d1
    have hR2 := RS_x hR (xf_ex d2) (by decide) (rl_x hR.2.2.2.2.2.2.1 (xf_ex d2) (by decide))
    have hC2 := CS_lo hC hrv (xf_lo (xf_ex d2) (by decide))
    exact ⟨_, _, _, T1, T2, rfl, V, S, Ls, a, u, hb, Bs, Wt, N, T, B, m, l, fk, fp, I2, J, rv, sp, rr, w, nw, rfl, hrs, hrr, hww, hcw, PS_mono hP (by omega) hP.2.2.2.2.2, hC2, hR2⟩
theorem C_take {t : Int} (ht : 0 ≤ t ∧ t < 600) {h : mm_H} (hi : INV t h) (x1 : Int32) : CALL2 171 273 [.int x1] h (INV (t + 1)) := by
  obtain ⟨V, S, Ls, a, u, hb, Bs, Wt, N, T, B, m, l, fk, fp, I, J, rv, sp, rr, w, nw, rfl, hrs, hrr, hww, hcw, hP, hC, hR⟩ := hi
  obtain ⟨z1, hz1, rfl⟩ := in_iN x1
  have hrv : rv = 3 ∨ rv = 19 := by omega
  obtain ⟨n, hn⟩ : ∃ n : Nat, 900000 ≤ n := ⟨_, Nat.le_refl _⟩
  have hcO := PS_cOK hP (by omega) hC
  have hrO0 := PS_rOK hP (by omega) hR
  have cc := cl_Take hrv hcO hC.2.2.1 hC.2.2.2.1 hz1 (n := n) (by omega)
  by_cases hk : kTk V S z1
  · obtain ⟨I1, c1, c2, c3, c4, c5⟩ := cc.1 hk
    have T1 := tX11_take 896 n (iN z1) I J rv sp rr w nw hrv _ c1
    have hR1 := RS_hi hR (ex_hi c2 (by intro c hc; simp only [List.mem_cons, List.not_mem_nil, or_false] at hc; omega))
    have hrO := PS_rOK hP (by omega) hR1
    obtain ⟨I2, d1, d2, d3, d4⟩ := (rf_Take hrO hR1.2.2.1 hz1 (n := n) (by omega)).1 hk
    have T2 := tX12_take 898 n (iN z1) I1 J rv sp rr w nw _ d1
    have hC2 := CS_lo (CS_a hC hrv c2 (by intro c hc; simp only [List.mem_cons, List.not_mem_nil, or_false] at hc; omega) c3 c4 c5) hrv (xf_lo d2 (by decide))
    have hR2 := RS_a hR1 d2 (by decide) d3 d4 (rB_x hR1.2.2.2.1 d2 (by decide))
    exact ⟨_, _, _, T1, T2, rfl, V, _, _, _, _, hb, Bs, Wt, N, T, B, m, l, fk, fp, I2, J, rv, sp, rr, w, nw, rfl, hrs, hrr, hww, hcw, PS_a hP (wfS_mono (wfS_ld hP.1 hP.2.1 hk.1 (by have := hP.1.1; unfold bnk; split <;> omega)) (by omega)) (wf_Lact hC.2.2.1.1 hP.2.1 hP.2.2.1) hP.2.2.2.1, hC2, hR2⟩
  · have c1 := cc.2 hk
    have T1 := tX11_take 896 n (iN z1) I J rv sp rr w nw hrv _ c1
    have d1 := (rf_Take hrO0 hR.2.2.1 hz1 (n := n) (by omega)).2 hk
    have T2 := tX12_take 898 n (iN z1) I J rv sp rr w nw _ d1
    exact ⟨_, _, _, T1, T2, rfl, V, S, Ls, a, u, hb, Bs, Wt, N, T, B, m, l, fk, fp, I, J, rv, sp, rr, w, nw, rfl, hrs, hrr, hww, hcw, PS_mono hP (by omega) hP.2.2.2.2.2, hC, hR⟩
theorem C_cool {t : Int} (ht : 0 ≤ t ∧ t < 600) {h : mm_H} (hi : INV t h) (x1 x2 : Int32) : CALL2 172 274 [.int x1, .int x2] h (INV (t + 1)) := by
  obtain ⟨V, S, Ls, a, u, hb, Bs, Wt, N, T, B, m, l, fk, fp, I, J, rv, sp, rr, w, nw, rfl, hrs, hrr, hww, hcw, hP, hC, hR⟩ := hi
  obtain ⟨z1, hz1, rfl⟩ := in_iN x1
  obtain ⟨z2, hz2, rfl⟩ := in_iN x2
  have hrv : rv = 3 ∨ rv = 19 := by omega
  obtain ⟨n, hn⟩ : ∃ n : Nat, 900000 ≤ n := ⟨_, Nat.le_refl _⟩
  have hcO := PS_cOK hP (by omega) hC
  have hrO0 := PS_rOK hP (by omega) hR
  have cc := cl_CoolM hrv hcO hC.2.2.1 hC.2.2.2.1 hz1 hz2 (n := n) (by omega)
  by_cases hk : kCo V z1 z2
  · obtain ⟨I1, c1, c2, c3, c4, c5⟩ := cc.1 hk
    have T1 := tX11_cool 897 n (iN z1) (iN z2) I J rv sp rr w nw hrv _ c1
    have hR1 := RS_hi hR (ex_hi c2 (by intro c hc; simp only [List.mem_cons, List.not_mem_nil, or_false] at hc; omega))
    have hrO := PS_rOK hP (by omega) hR1
    obtain ⟨I2, d1, d2, d3, d4⟩ := (rf_CoolM hrO hR1.2.2.1 hz1 hz2 (n := n) (by omega)).1 hk
    have T2 := tX12_cool 898 n (iN z1) (iN z2) I1 J rv sp rr w nw _ d1
    have hC2 := CS_lo (CS_a hC hrv c2 (by intro c hc; simp only [List.mem_cons, List.not_mem_nil, or_false] at hc; omega) c3 c4 c5) hrv (xf_lo d2 (by decide))
    have hR2 := RS_a hR1 d2 (by decide) d3 d4 (rB_x hR1.2.2.2.1 d2 (by decide))
    exact ⟨_, _, _, T1, T2, rfl, V, _, _, _, _, hb, Bs, Wt, N, T, B, m, l, fk, fp, I2, J, rv, sp, rr, w, nw, rfl, hrs, hrr, hww, hcw, PS_a hP (wfS_mono (wfS_co hP.1 hP.2.1 hk.1 (by exact ⟨clamp_lo (by omega), clamp_hi (by omega)⟩)) (by omega)) (wf_Lact hC.2.2.1.1 hP.2.1 hP.2.2.1) hP.2.2.2.1, hC2, hR2⟩
  · have c1 := cc.2 hk
    have T1 := tX11_cool 897 n (iN z1) (iN z2) I J rv sp rr w nw hrv _ c1
    have d1 := (rf_CoolM hrO0 hR.2.2.1 hz1 hz2 (n := n) (by omega)).2 hk
    have T2 := tX12_cool 898 n (iN z1) (iN z2) I J rv sp rr w nw _ d1
    exact ⟨_, _, _, T1, T2, rfl, V, S, Ls, a, u, hb, Bs, Wt, N, T, B, m, l, fk, fp, I, J, rv, sp, rr, w, nw, rfl, hrs, hrr, hww, hcw, PS_mono hP (by omega) hP.2.2.2.2.2, hC, hR⟩
theorem C_undo {t : Int} (ht : 0 ≤ t ∧ t < 600) {h : mm_H} (hi : INV t h) : CALL2 173 275 [] h (INV (t + 1)) := by
  obtain ⟨V, S, Ls, a, u, hb, Bs, Wt, N, T, B, m, l, fk, fp, I, J, rv, sp, rr, w, nw, rfl, hrs, hrr, hww, hcw, hP, hC, hR⟩ := hi
  have hrv : rv = 3 ∨ rv = 19 := by omega
  obtain ⟨n, hn⟩ : ∃ n : Nat, 900000 ≤ n := ⟨_, Nat.le_refl _⟩
  have hcO := PS_cOK hP (by omega) hC
  have hrO0 := PS_rOK hP (by omega) hR
  obtain ⟨I1, c1, c2, c3, c4, c5⟩ := cl_undo hC.2.2.1 hC.2.1 hC.2.2.2.1 (n := n) (by omega)
  have T1 := tX11_undo 897 n I J rv sp rr w nw _ c1
  have hR1 := RS_hi hR (ex_hi c2 (by decide))
  obtain ⟨I2, d1, d2, d3, d4⟩ := rf_Undo hR1.2.1 hR1.2.2.1 (n := n) (by omega)
  have T2 := tX12_undo 899 n I1 J rv sp rr w nw _ d1
  have hC2 := CS_lo (CS_a hC hrv c2 (by intro c hc; simp only [List.mem_cons, List.not_mem_nil, or_false] at hc; omega) c3 c4 c5) hrv (xf_lo d2 (by decide))
  have hR2 := RS_a hR1 d2 (by decide) d3 d4 (rB_x hR1.2.2.2.1 d2 (by decide))
  have w1 : wfS V (t + 1) (if a = 0 then S else Ls (a - 1)) := by
    by_cases c : a = 0
    · rw [if_pos c]; exact wfS_mono hP.2.1 (by omega)
    · rw [if_neg c]; exact wfS_mono (hP.2.2.1 _ (by omega)) (by omega)
  have w2 : ∀ i, i < (if a = 0 then a else a - 1) + (if a = 0 then u else u + 1) → wfS V t ((if a = 0 then Ls else Lswp Ls (a - 1) S) i) := by
    intro i hi
    by_cases c : a = 0
    · rw [if_pos c, if_pos c] at hi
      rw [if_pos c]; exact hP.2.2.1 i hi
    · rw [if_neg c, if_neg c] at hi
      rw [if_neg c]; exact wf_Lswp (a := a) (u := u) hP.2.1 hP.2.2.1 i (by omega)
  exact ⟨_, _, _, T1, T2, rfl, V, _, _, _, _, hb, Bs, Wt, N, T, B, m, l, fk, fp, I2, J, rv, sp, rr, w, nw, rfl, hrs, hrr, hww, hcw, PS_a hP w1 w2 hP.2.2.2.1, hC2, hR2⟩
theorem C_redo {t : Int} (ht : 0 ≤ t ∧ t < 600) {h : mm_H} (hi : INV t h) : CALL2 174 276 [] h (INV (t + 1)) := by
  obtain ⟨V, S, Ls, a, u, hb, Bs, Wt, N, T, B, m, l, fk, fp, I, J, rv, sp, rr, w, nw, rfl, hrs, hrr, hww, hcw, hP, hC, hR⟩ := hi
  have hrv : rv = 3 ∨ rv = 19 := by omega
  obtain ⟨n, hn⟩ : ∃ n : Nat, 900000 ≤ n := ⟨_, Nat.le_refl _⟩
  have hcO := PS_cOK hP (by omega) hC
  have hrO0 := PS_rOK hP (by omega) hR
  obtain ⟨I1, c1, c2, c3, c4, c5⟩ := cl_redo hC.2.2.1 hC.2.1 hC.2.2.2.1 (n := n) (by omega)
  have T1 := tX11_redo 897 n I J rv sp rr w nw _ c1
  have hR1 := RS_hi hR (ex_hi c2 (by decide))
  obtain ⟨I2, d1, d2, d3, d4⟩ := rf_Redo hR1.2.1 hR1.2.2.1 (n := n) (by omega)
  have T2 := tX12_redo 899 n I1 J rv sp rr w nw _ d1
  have hC2 := CS_lo (CS_a hC hrv c2 (by intro c hc; simp only [List.mem_cons, List.not_mem_nil, or_false] at hc; omega) c3 c4 c5) hrv (xf_lo d2 (by decide))
  have hR2 := RS_a hR1 d2 (by decide) d3 d4 (rB_x hR1.2.2.2.1 d2 (by decide))
  have w1 : wfS V (t + 1) (if u = 0 then S else Ls a) := by
    by_cases c : u = 0
    · rw [if_pos c]; exact wfS_mono hP.2.1 (by omega)
    · rw [if_neg c]; exact wfS_mono (hP.2.2.1 _ (by omega)) (by omega)
  have w2 : ∀ i, i < (if u = 0 then a else a + 1) + (if u = 0 then u else u - 1) → wfS V t ((if u = 0 then Ls else Lswp Ls a S) i) := by
    intro i hi
    by_cases c : u = 0
    · rw [if_pos c, if_pos c] at hi
      rw [if_pos c]; exact hP.2.2.1 i hi
    · rw [if_neg c, if_neg c] at hi
      rw [if_neg c]; exact wf_Lswp (a := a) (u := u) hP.2.1 hP.2.2.1 i (by omega)
  exact ⟨_, _, _, T1, T2, rfl, V, _, _, _, _, hb, Bs, Wt, N, T, B, m, l, fk, fp, I2, J, rv, sp, rr, w, nw, rfl, hrs, hrr, hww, hcw, PS_a hP w1 w2 hP.2.2.2.1, hC2, hR2⟩
theorem C_image {t : Int} (ht : 0 ≤ t ∧ t < 600) {h : mm_H} (hi : INV t h) (x1 : Int32) : CALL2 201 329 [.int x1] h (INV (t + 1)) := by
  obtain ⟨V, S, Ls, a, u, hb, Bs, Wt, N, T, B, m, l, fk, fp, I, J, rv, sp, rr, w, nw, rfl, hrs, hrr, hww, hcw, hP, hC, hR⟩ := hi
  obtain ⟨z1, hz1, rfl⟩ := in_iN x1
  have hrv : rv = 3 ∨ rv = 19 := by omega
  obtain ⟨n, hn⟩ : ∃ n : Nat, 900000 ≤ n := ⟨_, Nat.le_refl _⟩
  have hcO := PS_cOK hP (by omega) hC
  have hrO0 := PS_rOK hP (by omega) hR
  obtain ⟨I1, c1, c2, c3, c4⟩ := cl_Image hrv hcO hC.2.2.1 hC.2.2.2.1 hz1 (n := n) (by omega)
  have T1 := tX11_image 896 n (iN z1) I J rv sp rr w nw hrv _ c1
  have hR1 := RS_hi hR (ex_hi c2 (by decide))
  have hrO := PS_rOK hP (by omega) hR1
  obtain ⟨I2, d1, d2, d3⟩ := rf_Image hrO hR1.2.2.2.1 hz1 (n := n) (by omega)
  have T2 := tX12_image 897 n (iN z1) I1 J rv sp rr w nw _ d1
  have hC2 := CS_lo (CS_a hC hrv c2 (by intro c hc; simp only [List.mem_cons, List.not_mem_nil, or_false] at hc; omega) (clsS_of hC.2.1 (c2 _ (by decide))) c3 c4) hrv (xf_lo (xf_ex d2) (by decide))
  have hR2 := RS_a hR1 (xf_ex d2) (by decide) (hr_xf (xf_ex d2) (by decide) (by omega) hR1.2.1) (rU_xf hR1.2.2.1 (xf_ex d2) (by decide)) d3
  have w3 : ∀ b, 0 ≤ b → b < 3 → (if 0 ≤ z1 ∧ z1 < 3 then hbu hb z1 else hb) b = true → wfS V t ((if 0 ≤ z1 ∧ z1 < 3 then ud Bs z1 S else Bs) b) := by
    intro b b1 b2 b3
    by_cases c : 0 ≤ z1 ∧ z1 < 3
    · rw [if_pos c] at b3 ⊢
      unfold hbu at b3
      unfold ud
      by_cases cb : b = z1
      · rw [if_pos cb]; exact hP.2.1
      · rw [if_neg cb] at b3 ⊢; exact hP.2.2.2.1 b b1 b2 b3
    · rw [if_neg c] at b3 ⊢; exact hP.2.2.2.1 b b1 b2 b3
  exact ⟨_, _, _, T1, T2, rfl, V, S, Ls, a, u, _, _, Wt, N, T, B, m, l, fk, fp, I2, J, rv, sp, rr, w, nw, rfl, hrs, hrr, hww, hcw, PS_a hP (wfS_mono hP.2.1 (by omega)) hP.2.2.1 w3, hC2, hR2⟩
theorem C_back {t : Int} (ht : 0 ≤ t ∧ t < 600) {h : mm_H} (hi : INV t h) (x1 : Int32) : CALL2 202 330 [.int x1] h (INV (t + 1)) := by
  obtain ⟨V, S, Ls, a, u, hb, Bs, Wt, N, T, B, m, l, fk, fp, I, J, rv, sp, rr, w, nw, rfl, hrs, hrr, hww, hcw, hP, hC, hR⟩ := hi
  obtain ⟨z1, hz1, rfl⟩ := in_iN x1
  have hrv : rv = 3 ∨ rv = 19 := by omega
  obtain ⟨n, hn⟩ : ∃ n : Nat, 900000 ≤ n := ⟨_, Nat.le_refl _⟩
  have hcO := PS_cOK hP (by omega) hC
  have hrO0 := PS_rOK hP (by omega) hR
  have hBw : ∀ b, 0 ≤ b → b < 3 → hb b = true → wfS V 600 (Bs b) := fun b b1 b2 b3 => wfS_mono (hP.2.2.2.1 b b1 b2 b3) (by omega)
  have cc := cl_Back hrv hcO hC.2.2.1 hC.2.2.2.1 hBw hz1 (n := n) (by omega)
  by_cases hk : (0 ≤ z1 ∧ z1 < 3) ∧ hb z1 = true
  · obtain ⟨I1, c1, c2, c3, c4, c5⟩ := cc.1 hk
    have T1 := tX11_back 896 n (iN z1) I J rv sp rr w nw hrv _ c1
    have hR1 := RS_hi hR (ex_hi c2 (by decide))
    have hrO := PS_rOK hP (by omega) hR1
    obtain ⟨I2, d1, d2, d3, d4, d5⟩ := (rf_Back hrO hR1.2.2.2.1 hBw hz1 (Ls := Ls) (n := n) (by omega)).1 hk
    have T2 := tX12_back 897 n (iN z1) I1 J rv sp rr w nw _ d1
    have hC2 := CS_lo (CS_a hC hrv c2 (by intro c hc; simp only [List.mem_cons, List.not_mem_nil, or_false] at hc; omega) c3 c4 c5) hrv (xf_lo d2 (by decide))
    have hR2 := RS_a hR1 d2 (by decide) d3 d4 d5
    exact ⟨_, _, _, T1, T2, rfl, V, _, Ls, 0, 0, hb, Bs, Wt, N, T, B, m, l, fk, fp, I2, J, rv, sp, rr, w, nw, rfl, hrs, hrr, hww, hcw, PS_a hP (wfS_mono (hP.2.2.2.1 z1 hk.1.1 hk.1.2 hk.2) (by omega)) (fun i hi => absurd hi (by omega)) hP.2.2.2.1, hC2, hR2⟩
  · have c1 := cc.2 hk
    have T1 := tX11_back 896 n (iN z1) I J rv sp rr w nw hrv _ c1
    have d1 := (rf_Back hrO0 hR.2.2.2.1 hBw hz1 (Ls := Ls) (n := n) (by omega)).2 hk
    have T2 := tX12_back 897 n (iN z1) I J rv sp rr w nw _ d1
    exact ⟨_, _, _, T1, T2, rfl, V, S, Ls, a, u, hb, Bs, Wt, N, T, B, m, l, fk, fp, I, J, rv, sp, rr, w, nw, rfl, hrs, hrr, hww, hcw, PS_mono hP (by omega) hP.2.2.2.2.2, hC, hR⟩
theorem C_feed {t : Int} (ht : 0 ≤ t ∧ t < 600) {h : mm_H} (hi : INV t h) (x1 x2 x3 x4 x5 : Int32) : CALL2 159 207 [.int x1, .int x2, .int x3, .int x4, .int x5] h (INV (t + 1)) := by
  obtain ⟨V, S, Ls, a, u, hb, Bs, Wt, N, T, B, m, l, fk, fp, I, J, rv, sp, rr, w, nw, rfl, hrs, hrr, hww, hcw, hP, hC, hR⟩ := hi
  have hrv : rv = 3 ∨ rv = 19 := by omega
  obtain ⟨n, hn⟩ : ∃ n : Nat, 900000 ≤ n := ⟨_, Nat.le_refl _⟩
  have hcO := PS_cOK hP (by omega) hC
  have hrO0 := PS_rOK hP (by omega) hR
  have cc := cl_Feed hC.2.2.2.2.2.2.1 x1 x2 x3 x4 x5 (n := n) (by omega)
  by_cases hk : m + 20 ≤ 1600
  · obtain ⟨I1, c1, c2, c3, c4, c5⟩ := cc.1 hk
    have T1 := tX11_feed 899 n x1 x2 x3 x4 x5 I J rv sp rr w nw _ c1
    have hR1 := RS_hi hR (ex_hi c2 (by decide))
    obtain ⟨I2, d1, d2, d3⟩ := (rf_Feed hR1.2.2.2.2.2.1 x1 x2 x3 x4 x5 (n := n) (by omega)).1 hk
    have T2 := tX12_feed 899 n x1 x2 x3 x4 x5 I1 J rv sp rr w nw _ d1
    have hC2 := CS_lo (CS_t hC hrv c2 c3 c4 c5) hrv (xf_lo d2 (by decide))
    have hR2 := RS_t hR1 d2 (by decide) d3
    exact ⟨_, _, _, T1, T2, rfl, V, S, Ls, a, u, hb, Bs, Wt, N, T, _, _, l, fk, fp, I2, J, rv, sp, rr, w, nw, rfl, hrs, hrr, hww, hcw, PS_mono hP (by omega) hP.2.2.2.2.2, hC2, hR2⟩
  · have c1 := cc.2 hk
    have T1 := tX11_feed 899 n x1 x2 x3 x4 x5 I J rv sp rr w nw _ c1
    have d1 := (rf_Feed hR.2.2.2.2.2.1 x1 x2 x3 x4 x5 (n := n) (by omega)).2 hk
    have T2 := tX12_feed 899 n x1 x2 x3 x4 x5 I J rv sp rr w nw _ d1
    exact ⟨_, _, _, T1, T2, rfl, V, S, Ls, a, u, hb, Bs, Wt, N, T, B, m, l, fk, fp, I, J, rv, sp, rr, w, nw, rfl, hrs, hrr, hww, hcw, PS_mono hP (by omega) hP.2.2.2.2.2, hC, hR⟩
theorem C_end {t : Int} (ht : 0 ≤ t ∧ t < 600) {h : mm_H} (hi : INV t h) (x1 : Int32) : CALL2 161 209 [.int x1] h (INV (t + 1)) := by
  obtain ⟨V, S, Ls, a, u, hb, Bs, Wt, N, T, B, m, l, fk, fp, I, J, rv, sp, rr, w, nw, rfl, hrs, hrr, hww, hcw, hP, hC, hR⟩ := hi
  obtain ⟨z1, hz1, rfl⟩ := in_iN x1
  have hrv : rv = 3 ∨ rv = 19 := by omega
  obtain ⟨n, hn⟩ : ∃ n : Nat, 900000 ≤ n := ⟨_, Nat.le_refl _⟩
  have hcO := PS_cOK hP (by omega) hC
  have hrO0 := PS_rOK hP (by omega) hR
  have cc := cl_End hC.2.2.2.2.2.2.1 hz1
  by_cases hk : 0 ≤ z1 ∧ z1 ≤ m
  · obtain ⟨c1, c5⟩ := cc.1 hk
    have c2 : ex [1, 2] I (mm_up I 1 1 (iN z1)) := ex_up (by decide)
    have T1 := tX11_end 900 (iN z1) I J rv sp rr w nw _ c1
    have hR1 := RS_hi hR (ex_hi c2 (by decide))
    obtain ⟨d1, d3⟩ := (rf_End hR1.2.2.2.2.2.1 hz1).1 hk
    have d2 : xf [1001] (mm_up I 1 1 (iN z1)) (mm_up (mm_up I 1 1 (iN z1)) 62 1 (iN z1)) := xf_u62 (by decide)
    have T2 := tX12_end 900 (iN z1) _ J rv sp rr w nw _ d1
    have hC2 := CS_lo (CS_t hC hrv c2 (up_k (by omega)) (up_k (by omega)) c5) hrv (xf_lo d2 (by decide))
    have hR2 := RS_t hR1 d2 (by decide) d3
    exact ⟨_, _, _, T1, T2, rfl, V, S, Ls, a, u, hb, Bs, Wt, N, T, _, _, l, fk, fp, _, J, rv, sp, rr, w, nw, rfl, hrs, hrr, hww, hcw, PS_mono hP (by omega) hP.2.2.2.2.2, hC2, hR2⟩
  · have c1 := cc.2 hk
    have T1 := tX11_end 900 (iN z1) I J rv sp rr w nw _ c1
    have d1 := (rf_End hR.2.2.2.2.2.1 hz1).2 hk
    have T2 := tX12_end 900 (iN z1) I J rv sp rr w nw _ d1
    exact ⟨_, _, _, T1, T2, rfl, V, S, Ls, a, u, hb, Bs, Wt, N, T, B, m, l, fk, fp, I, J, rv, sp, rr, w, nw, rfl, hrs, hrr, hww, hcw, PS_mono hP (by omega) hP.2.2.2.2.2, hC, hR⟩
theorem C_passed {t : Int} (ht : 0 ≤ t ∧ t < 600) {h : mm_H} (hi : INV t h) (x1 x2 x3 : Int32) (hq3 : x3 = iN 0 ∨ x3 = iN 1) : CALL2 194 318 [.int x1, .int x2, .int x3] h (INV (t + 1)) := by
  obtain ⟨V, S, Ls, a, u, hb, Bs, Wt, N, T, B, m, l, fk, fp, I, J, rv, sp, rr, w, nw, rfl, hrs, hrr, hww, hcw, hP, hC, hR⟩ := hi
  obtain ⟨z1, hz1, rfl⟩ := in_iN x1
  obtain ⟨z2, hz2, rfl⟩ := in_iN x2
  obtain ⟨z3, hq, rfl⟩ : ∃ z3 : Int, (z3 = 0 ∨ z3 = 1) ∧ x3 = iN z3 := by
    rcases hq3 with h | h
    · exact ⟨0, Or.inl rfl, h⟩
    · exact ⟨1, Or.inr rfl, h⟩
  have hrv : rv = 3 ∨ rv = 19 := by omega
  obtain ⟨n, hn⟩ : ∃ n : Nat, 900000 ≤ n := ⟨_, Nat.le_refl _⟩
  have hcO := PS_cOK hP (by omega) hC
  have hrO0 := PS_rOK hP (by omega) hR
  have cc := cl_Passed hcO hP.2.2.2.2.1 hC.2.2.2.2.1 hz1 hz2 hq
  by_cases hk : (0 ≤ z2 ∧ z2 ≤ 7) ∧ kSe V N z1
  · obtain ⟨I1, c1, c2, c3, c4⟩ := cc.1 hk
    have T1 := tX11_passed 897 (iN z1) (iN z2) (iN z3) I J rv sp rr w nw hrv _ c1
    have hR1 := RS_hi hR (ex_hi c2 (by decide))
    have hrO := PS_rOK hP (by omega) hR1
    obtain ⟨I2, d1, d2, d3⟩ := (rf_Passed hrO hP.2.2.2.2.1 hR1.2.2.2.2.1 hz1 hz2 hq).1 hk
    have T2 := tX12_passed 898 (iN z1) (iN z2) (iN z3) I1 J rv sp rr w nw _ d1
    have hC2 := CS_lo (CS_w hC hrv c2 (by intro c hc; simp only [List.mem_cons, List.not_mem_nil, or_false] at hc; omega) c4 (gT_w hC.2.2.2.2.2.1 c2 c3 (by decide))) hrv (xf_lo d2 (by decide))
    have hR2 := RS_w hR1 d2 (by decide) d3
    exact ⟨_, _, _, T1, T2, rfl, V, S, Ls, a, u, hb, Bs, _, _, _, B, m, l, fk, fp, I2, J, rv, sp, rr, w, nw, rfl, hrs, hrr, hww, hcw, PS_w hP (wfW_add hP.1 hP.2.2.2.2.1 hk.2 (by omega) (by omega) hq), hC2, hR2⟩
  · have c1 := cc.2 hk
    have T1 := tX11_passed 897 (iN z1) (iN z2) (iN z3) I J rv sp rr w nw hrv _ c1
    have d1 := (rf_Passed hrO0 hP.2.2.2.2.1 hR.2.2.2.2.1 hz1 hz2 hq).2 hk
    have T2 := tX12_passed 898 (iN z1) (iN z2) (iN z3) I J rv sp rr w nw _ d1
    exact ⟨_, _, _, T1, T2, rfl, V, S, Ls, a, u, hb, Bs, Wt, N, T, B, m, l, fk, fp, I, J, rv, sp, rr, w, nw, rfl, hrs, hrr, hww, hcw, PS_mono hP (by omega) hP.2.2.2.2.2, hC, hR⟩
theorem C_felt {t : Int} (ht : 0 ≤ t ∧ t < 600) {h : mm_H} (hi : INV t h) (x1 x2 x3 : Int32) (hq3 : x3 = iN 0 ∨ x3 = iN 1) : CALL2 195 319 [.int x1, .int x2, .int x3] h (INV (t + 1)) := by
  obtain ⟨V, S, Ls, a, u, hb, Bs, Wt, N, T, B, m, l, fk, fp, I, J, rv, sp, rr, w, nw, rfl, hrs, hrr, hww, hcw, hP, hC, hR⟩ := hi
  obtain ⟨z1, hz1, rfl⟩ := in_iN x1
  obtain ⟨z2, hz2, rfl⟩ := in_iN x2
  obtain ⟨z3, hq, rfl⟩ : ∃ z3 : Int, (z3 = 0 ∨ z3 = 1) ∧ x3 = iN z3 := by
    rcases hq3 with h | h
    · exact ⟨0, Or.inl rfl, h⟩
    · exact ⟨1, Or.inr rfl, h⟩
  have hrv : rv = 3 ∨ rv = 19 := by omega
  obtain ⟨n, hn⟩ : ∃ n : Nat, 900000 ≤ n := ⟨_, Nat.le_refl _⟩
  have hcO := PS_cOK hP (by omega) hC
  have hrO0 := PS_rOK hP (by omega) hR
  have cc := cl_Felt hcO hP.2.2.2.2.1 hC.2.2.2.2.1 hz1 hz2 hq
  by_cases hk : (0 ≤ z2 ∧ z2 ≤ 99) ∧ kSe V N z1
  · obtain ⟨I1, c1, c2, c3, c4⟩ := cc.1 hk
    have T1 := tX11_felt 897 (iN z1) (iN z2) (iN z3) I J rv sp rr w nw hrv _ c1
    have hR1 := RS_hi hR (ex_hi c2 (by decide))
    have hrO := PS_rOK hP (by omega) hR1
    obtain ⟨I2, d1, d2, d3⟩ := (rf_Felt hrO hP.2.2.2.2.1 hR1.2.2.2.2.1 hz1 hz2 hq).1 hk
    have T2 := tX12_felt 898 (iN z1) (iN z2) (iN z3) I1 J rv sp rr w nw _ d1
    have hC2 := CS_lo (CS_w hC hrv c2 (by intro c hc; simp only [List.mem_cons, List.not_mem_nil, or_false] at hc; omega) c4 (gT_w hC.2.2.2.2.2.1 c2 c3 (by decide))) hrv (xf_lo d2 (by decide))
    have hR2 := RS_w hR1 d2 (by decide) d3
    exact ⟨_, _, _, T1, T2, rfl, V, S, Ls, a, u, hb, Bs, _, _, _, B, m, l, fk, fp, I2, J, rv, sp, rr, w, nw, rfl, hrs, hrr, hww, hcw, PS_w hP (wfW_add hP.1 hP.2.2.2.2.1 hk.2 (by omega) (by omega) hq), hC2, hR2⟩
  · have c1 := cc.2 hk
    have T1 := tX11_felt 897 (iN z1) (iN z2) (iN z3) I J rv sp rr w nw hrv _ c1
    have d1 := (rf_Felt hrO0 hP.2.2.2.2.1 hR.2.2.2.2.1 hz1 hz2 hq).2 hk
    have T2 := tX12_felt 898 (iN z1) (iN z2) (iN z3) I J rv sp rr w nw _ d1
    exact ⟨_, _, _, T1, T2, rfl, V, S, Ls, a, u, hb, Bs, Wt, N, T, B, m, l, fk, fp, I, J, rv, sp, rr, w, nw, rfl, hrs, hrr, hww, hcw, PS_mono hP (by omega) hP.2.2.2.2.2, hC, hR⟩
theorem C_untell {t : Int} (ht : 0 ≤ t ∧ t < 600) {h : mm_H} (hi : INV t h) (x1 : Int32) : CALL2 196 320 [.int x1] h (INV (t + 1)) := by
  obtain ⟨V, S, Ls, a, u, hb, Bs, Wt, N, T, B, m, l, fk, fp, I, J, rv, sp, rr, w, nw, rfl, hrs, hrr, hww, hcw, hP, hC, hR⟩ := hi
  obtain ⟨z1, hz1, rfl⟩ := in_iN x1
  have hrv : rv = 3 ∨ rv = 19 := by omega
  obtain ⟨n, hn⟩ : ∃ n : Nat, 900000 ≤ n := ⟨_, Nat.le_refl _⟩
  have hcO := PS_cOK hP (by omega) hC
  have hrO0 := PS_rOK hP (by omega) hR
  have cc := cl_Untell hP.2.2.2.2.1 hC.2.2.2.2.1 hz1
  by_cases hk : kUn Wt N z1
  · obtain ⟨I1, c1, c2, c3⟩ := cc.1 hk
    have T1 := tX11_untell 897 (iN z1) I J rv sp rr w nw _ c1
    have hR1 := RS_hi hR (ex_hi c2 (by decide))
    obtain ⟨I2, d1, d2, d3⟩ := (rf_Untell hP.2.2.2.2.1 hR1.2.2.2.2.1 hz1).1 hk
    have T2 := tX12_untell 899 (iN z1) I1 J rv sp rr w nw _ d1
    have hC2 := CS_lo (CS_w hC hrv c2 (by intro c hc; simp only [List.mem_cons, List.not_mem_nil, or_false] at hc; omega) c3 (gT_w hC.2.2.2.2.2.1 c2 (by rw [c2 54 (by decide)]) (by decide))) hrv (xf_lo (xf_ex d2) (by decide))
    have hR2 := RS_w hR1 (xf_ex d2) (by decide) d3
    exact ⟨_, _, _, T1, T2, rfl, V, S, Ls, a, u, hb, Bs, _, _, _, B, m, l, fk, fp, I2, J, rv, sp, rr, w, nw, rfl, hrs, hrr, hww, hcw, PS_w hP (wfW_un hP.2.2.2.2.1), hC2, hR2⟩
  · have c1 := cc.2 hk
    have T1 := tX11_untell 897 (iN z1) I J rv sp rr w nw _ c1
    have d1 := (rf_Untell hP.2.2.2.2.1 hR.2.2.2.2.1 hz1).2 hk
    have T2 := tX12_untell 899 (iN z1) I J rv sp rr w nw _ d1
    exact ⟨_, _, _, T1, T2, rfl, V, S, Ls, a, u, hb, Bs, Wt, N, T, B, m, l, fk, fp, I, J, rv, sp, rr, w, nw, rfl, hrs, hrr, hww, hcw, PS_mono hP (by omega) hP.2.2.2.2.2, hC, hR⟩
theorem C_later {t : Int} (ht : 0 ≤ t ∧ t < 600) {h : mm_H} (hi : INV t h) (x1 : Int32) : CALL2 197 321 [.int x1] h (INV (t + 1)) := by
  obtain ⟨V, S, Ls, a, u, hb, Bs, Wt, N, T, B, m, l, fk, fp, I, J, rv, sp, rr, w, nw, rfl, hrs, hrr, hww, hcw, hP, hC, hR⟩ := hi
  obtain ⟨z1, hz1, rfl⟩ := in_iN x1
  have hrv : rv = 3 ∨ rv = 19 := by omega
  obtain ⟨n, hn⟩ : ∃ n : Nat, 900000 ≤ n := ⟨_, Nat.le_refl _⟩
  have hcO := PS_cOK hP (by omega) hC
  have hrO0 := PS_rOK hP (by omega) hR
  have cc := cl_Later hP.2.2.2.2.1 hC.2.2.2.2.1 hz1
  by_cases hk : kLa T z1
  · obtain ⟨c1, c3⟩ := cc.1 hk
    have c2 : ex [54] I (mm_up I 54 10 (iN (T + z1))) := ex_up (by decide)
    have T1 := tX11_later 899 (iN z1) I J rv sp rr w nw _ c1
    have hR1 := RS_hi hR (ex_hi c2 (by decide))
    obtain ⟨d1, d3⟩ := (rf_Later hP.2.2.2.2.1 hR1.2.2.2.2.1 hz1).1 hk
    have d2 : xf [1076] (mm_up I 54 10 (iN (T + z1))) (mm_up (mm_up I 54 10 (iN (T + z1))) 62 76 (iN (T + z1))) := xf_u62 (by decide)
    have T2 := tX12_later 900 (iN z1) _ J rv sp rr w nw _ d1
    have hC2 := CS_lo (CS_w hC hrv c2 (by intro c hc; simp only [List.mem_cons, List.not_mem_nil, or_false] at hc; omega) c3 (gT_w hC.2.2.2.2.2.1 c2 (up_k (by omega)) (by decide))) hrv (xf_lo d2 (by decide))
    have hR2 := RS_w hR1 d2 (by decide) d3
    exact ⟨_, _, _, T1, T2, rfl, V, S, Ls, a, u, hb, Bs, _, _, _, B, m, l, fk, fp, _, J, rv, sp, rr, w, nw, rfl, hrs, hrr, hww, hcw, PS_w hP (wfW_la hP.2.2.2.2.1 hk), hC2, hR2⟩
  · have c1 := cc.2 hk
    have T1 := tX11_later 899 (iN z1) I J rv sp rr w nw _ c1
    have d1 := (rf_Later hP.2.2.2.2.1 hR.2.2.2.2.1 hz1).2 hk
    have T2 := tX12_later 900 (iN z1) I J rv sp rr w nw _ d1
    exact ⟨_, _, _, T1, T2, rfl, V, S, Ls, a, u, hb, Bs, Wt, N, T, B, m, l, fk, fp, I, J, rv, sp, rr, w, nw, rfl, hrs, hrr, hww, hcw, PS_mono hP (by omega) hP.2.2.2.2.2, hC, hR⟩
theorem C_odds {t : Int} (ht : 0 ≤ t ∧ t < 600) {h : mm_H} (hi : INV t h) (x1 x2 x3 : Int32) : CALL2 187 310 [.int x1, .int x2, .int x3] h (INV (t + 1)) := by
  obtain ⟨V, S, Ls, a, u, hb, Bs, Wt, N, T, B, m, l, fk, fp, I, J, rv, sp, rr, w, nw, rfl, hrs, hrr, hww, hcw, hP, hC, hR⟩ := hi
  obtain ⟨z1, hz1, rfl⟩ := in_iN x1
  obtain ⟨z2, hz2, rfl⟩ := in_iN x2
  obtain ⟨z3, hz3, rfl⟩ := in_iN x3
  have hrv : rv = 3 ∨ rv = 19 := by omega
  obtain ⟨n, hn⟩ : ∃ n : Nat, 900000 ≤ n := ⟨_, Nat.le_refl _⟩
  have hcO := PS_cOK hP (by omega) hC
  have hrO0 := PS_rOK hP (by omega) hR
  obtain ⟨w1, nw1, I1, c1, c3, c2⟩ := cl_Odds hrv hcO hww hz1 hz2 hz3 (n := n) (by omega)
  have T1 := tX11_odds 895 n (iN z1) (iN z2) (iN z3) I J rv sp rr w nw hrv hww _ c1
  have hC1 := CS_q0 hC hrv c2 (by intro c hc; simp only [List.mem_cons, List.not_mem_nil, or_false] at hc; omega)
  have hR1 := RS_hi hR (ex_hi c2 (by decide))
  have hrO := PS_rOK hP (by omega) hR1
  obtain ⟨I2, d1, d2⟩ := rf_Odds hrO hz1 hz2 hz3 (n := n) (by omega)
  have T2 := tX12_odds 895 n (iN z1) (iN z2) (iN z3) I1 J rv sp rr w1 nw1 _ d1
  have hR2 := RS_x hR1 (xf_ex d2) (by decide) (rl_x hR1.2.2.2.2.2.2.1 (xf_ex d2) (by decide))
  have hC2 := CS_lo hC1 hrv (xf_lo (xf_ex d2) (by decide))
  exact ⟨_, _, _, T1, T2, rfl, V, S, Ls, a, u, hb, Bs, Wt, N, T, B, m, l, fk, fp, I2, J, rv, sp, rr, w1, nw1, rfl, hrs, hrr, c3, hcw, PS_mono hP (by omega) hP.2.2.2.2.2, hC2, hR2⟩
