/-! The reference's stroke. -/
theorem rf_stroke {V : (Nat → Int → Int)} {S : Int → Int} {I : (Nat → Nat → Int32)} (hw : wfV V) (hV : refV V I) {b c r h q m s on k : Int} (hb1 : 0 ≤ b) (hb2 : b < V 0 2) (hp : ∀ l, 0 ≤ l → l < V 0 3 → -2 ≤ S (20 + l) ∧ S (20 + l) < 4)
    (hc : 0 ≤ c ∧ c < V 0 0) (hr1 : 0 ≤ r ∧ r ≤ V 0 1) (hro : 0 ≤ r + on ∧ r + on ≤ V 0 1) (hh : 0 ≤ h ∧ h ≤ 99) (hq : 0 ≤ q ∧ q < 100000) (hm : 0 ≤ m ∧ m < 100000) (hs : -1 ≤ s ∧ s ≤ 1) (hk : 1 ≤ k ∧ k ≤ 2) (hon : -1 ≤ on ∧ on ≤ 1) (ha : hr I 85 28 (air S b c r h q m)) {n : Nat} (hn : 302 ≤ n) :
    ∃ I', fX12_goStroke n (iN b) (iN s) (iN on) (iN k) I = some (iN ((if V 2 (8 * (r + on) + lead V c r s k) = 1 then 1 else 0) + (if V 5 b < nht V b (burd V S b) c r h m then 2 else 0)), I') ∧ ex [70, 71, 85] I I' ∧
      hr I' 85 28 (air S b (if V 2 (8 * (r + on) + lead V c r s k) = 1 then c else lead V c r s k) (if V 2 (8 * (r + on) + lead V c r s k) = 1 then r else r + on) (if V 5 b < nht V b (burd V S b) c r h m then 0 else nht V b (burd V S b) c r h m) (if V 5 b < nht V b (burd V S b) c r h m ∧ q < 999 then q + 1 else q) (m + 1)) := by
  have hV0 := hV
  have hw0 := hw
  obtain ⟨⟨v0, v1, v2, v3, v4, v5, v6⟩, w1, w2, w3, w4, w5, w6, w7, w8⟩ := hV
  obtain ⟨u0, u1, u2, u3, u4, u5, u6⟩ := hw
  have hb4 : b < 4 := by omega
  obtain ⟨I1, g1, g2⟩ := rf_hot hw0 hV0 hb1 hb2 ha (by intro l h1 h2; rw [air_20 hb1 hb4 h1]; exact hp l h1 h2) hn
  have ebu : burd V (air S b c r h q m) b = burd V S b := bur_air hb1 hb4 _
  rw [air_4, air_0, air_16, air_8, ebu] at g1
  have hwl := warm_lo (V := V) (row := r) (col := c) (load := burd V S b) (wide := V 3 b) (made := m) (hot := h)
  have hwh := warm_hi (V := V) (row := r) (col := c) (load := burd V S b) (wide := V 3 b) (made := m) (hot := h)
  have hl1 := lead_lo hw0 (c := c) (r := r) (s := s) (k := k)
  have hl2 := lead_hi hw0 (c := c) (r := r) (s := s) (k := k)
  have hcu := u1 (8 * r + c) (by omega) (by omega)
  have hir := u2 (8 * (r + on) + lead V c r s k) (by omega) (by omega)
  have hbe := u3 b hb1 hb2
  have hn0 := nht_lo (V := V) (b := b) (B := burd V S b) (c := c) (r := r) (m := m) hh.1
  have ha1 : hr I1 85 28 (air S b c r h q m) := hr_of ha (g2 85 (by decide))
  have hkc : 0 ≤ k * V 1 (8 * r + c) ∧ k * V 1 (8 * r + c) ≤ 14 := by
    have : k = 1 ∨ k = 2 := by omega
    rcases this with rfl | rfl <;> omega
  have i82 : I1 82 b.toNat = iN (V 5 b) := by rw [g2 82 (by decide)]; exact w5 b hb1 hb2
  have i79 : I1 79 (8 * (r + on) + lead V c r s k).toNat = iN (V 2 (8 * (r + on) + lead V c r s k)) := by rw [g2 79 (by decide)]; exact w2 _ (by omega) (by omega)
  have hcol : fX12_columnBy (iN c) (iN r) (iN s) (iN k) I = some (iN (lead V c r s k)) := by
    rw [fX12_columnBy, fX12_currentAt]
    simp (disch := omega) only [iN_lit, iN_add, iN_sub, iN_mul, iN_neg, iN_lt, iN_eq, iN_tn, if_true, if_false, if_pos, if_neg, w1, v0, Option.bind_some]
    rw [rf_within (by omega) (by omega)]
    rfl
  rw [fX12_goStroke]
  simp (disch := omega) only [iN_lit, iN_add, iN_sub, iN_mul, iN_neg, iN_lt, iN_eq, iN_tn, if_true, if_false, if_pos, if_neg, ha, air_0, air_4, air_8, hcol, Option.bind_some, g1, fX12_isIron, i79]
  have fin : ∀ (I2 : (Nat → Nat → Int32)) (c2 r2 : Int) (y : Int), (y = 0 ∨ y = 1) → ex [70, 71, 85] I I2 → hr I2 85 28 (air S b c2 r2 h q m) → ∃ I', fX12_goStroke_J85 (iN b) (iN (h + warm V r c (burd V S b) (V 3 b) m h)) (iN y) I2 = some (iN (y + (if V 5 b < nht V b (burd V S b) c r h m then 2 else 0)), I') ∧ ex [70, 71, 85] I I' ∧ hr I' 85 28 (air S b c2 r2 (if V 5 b < nht V b (burd V S b) c r h m then 0 else nht V b (burd V S b) c r h m) (if V 5 b < nht V b (burd V S b) c r h m ∧ q < 999 then q + 1 else q) (m + 1)) := by
    intro I2 c2 r2 y hy hx h2
    have j16 : I2 85 (16 + b).toNat = iN m := by rw [h2 (16 + b) (by omega) (by omega), air_16]
    have h3 : hr (mm_up I2 85 (16 + b).toNat (iN (m + 1))) 85 28 (air S b c2 r2 h q (m + 1)) := by have := hr_up h2 (k := 16 + b) (by omega) (m + 1); rwa [ud_16] at this
    have x3 : ex [70, 71, 85] I (mm_up I2 85 (16 + b).toNat (iN (m + 1))) := ex_trans hx (ex_up (by decide))
    have d82 : mm_up I2 85 (16 + b).toNat (iN (m + 1)) 82 b.toNat = iN (V 5 b) := by rw [x3 82 (by decide)]; exact w5 b hb1 hb2
    have ty : fX12_truth (iN y) = iN y := by rcases hy with rfl | rfl <;> rfl
    have t0 : fX12_truth (iN 0) = iN 0 := rfl
    have t1 : fX12_truth (iN 1) = iN 1 := rfl
    have key : ∀ I3, I3 = mm_up I2 85 (16 + b).toNat (iN (m + 1)) → ∃ I', fX12_goStroke_J112 (iN b) (iN y) (iN (nht V b (burd V S b) c r h m)) I3 = some (iN (y + (if V 5 b < nht V b (burd V S b) c r h m then 2 else 0)), I') ∧ ex [70, 71, 85] I I' ∧ hr I' 85 28 (air S b c2 r2 (if V 5 b < nht V b (burd V S b) c r h m then 0 else nht V b (burd V S b) c r h m) (if V 5 b < nht V b (burd V S b) c r h m ∧ q < 999 then q + 1 else q) (m + 1)) := by
      intro I3 e3
      rw [← e3] at h3 x3 d82
      rw [fX12_goStroke_J112, fX12_goStroke_J130, fX12_goStroke_J130, fX12_goStroke_J151, fX12_goStroke_J151, fX12_goStroke_J151, fX12_goStroke_J151]
      simp (disch := omega) only [iN_lit, iN_add, iN_sub, iN_mul, iN_neg, iN_lt, iN_eq, iN_tn, if_true, if_false, if_pos, if_neg, d82, fX12_goStroke_J185, ty, t0, t1, Int.reduceMul, Int.reduceEq]
      by_cases hsc : V 5 b < nht V b (burd V S b) c r h m
      · have h4 : hr (mm_up I3 85 (8 + b).toNat (iN 0)) 85 28 (air S b c2 r2 0 q (m + 1)) := by have := hr_up h3 (k := 8 + b) (by omega) 0; rwa [ud_8] at this
        have j12 : mm_up I3 85 (8 + b).toNat (iN 0) 85 (12 + b).toNat = iN q := by rw [h4 (12 + b) (by omega) (by omega), air_12]
        simp only [if_pos hsc]
        simp (disch := omega) only [iN_lit, iN_add, iN_sub, iN_mul, iN_neg, iN_lt, iN_eq, iN_tn, if_true, if_false, if_pos, if_neg, j12]
        by_cases hq9 : q < 999
        · refine ⟨_, by rw [if_pos hq9], ex_trans (ex_trans x3 (ex_up (by decide))) (ex_up (by decide)), ?_⟩
          rw [if_pos ⟨hsc, hq9⟩]
          have := hr_up h4 (k := 12 + b) (by omega) (q + 1)
          rwa [ud_12] at this
        · refine ⟨_, by rw [if_neg hq9], ex_trans x3 (ex_up (by decide)), ?_⟩
          rw [if_neg (by omega)]
          exact h4
      · have h4 : hr (mm_up I3 85 (8 + b).toNat (iN (nht V b (burd V S b) c r h m))) 85 28 (air S b c2 r2 (nht V b (burd V S b) c r h m) q (m + 1)) := by have := hr_up h3 (k := 8 + b) (by omega) (nht V b (burd V S b) c r h m); rwa [ud_8] at this
        simp only [if_neg hsc]
        refine ⟨_, rfl, ex_trans x3 (ex_up (by decide)), ?_⟩
        rw [if_neg (by omega)]
        exact h4
    rw [fX12_goStroke_J85]
    simp (disch := omega) only [iN_lit, iN_add, iN_sub, iN_mul, iN_neg, iN_lt, iN_eq, iN_tn, if_true, if_false, if_pos, if_neg, j16]
    by_cases h99 : 99 < h + warm V r c (burd V S b) (V 3 b) m h
    · have := key _ rfl
      have en : nht V b (burd V S b) c r h m = 99 := by unfold nht; rw [if_pos h99]
      rw [if_pos h99]
      rw [en] at this ⊢
      exact this
    · have := key _ rfl
      have en : nht V b (burd V S b) c r h m = h + warm V r c (burd V S b) (V 3 b) m h := by unfold nht; rw [if_neg h99]
      rw [if_neg h99]
      rw [en] at this ⊢
      exact this
  by_cases hi : V 2 (8 * (r + on) + lead V c r s k) = 1
  · obtain ⟨I', f1, f2, f3⟩ := fin I1 c r 1 (by omega) (ex_mono g2 (by intro a h; simp at h ⊢; omega)) ha1
    refine ⟨I', ?_, f2, ?_⟩
    · simp only [if_pos hi]
      simp (disch := omega) only [iN_lit, iN_add, iN_sub, iN_mul, iN_neg, iN_lt, iN_eq, iN_tn, if_true, if_false, if_pos, if_neg, Option.bind_some]
      exact f1
    · simp only [if_pos hi]
      exact f3
  · have h5 : hr (mm_up (mm_up I1 85 b.toNat (iN (lead V c r s k))) 85 (4 + b).toNat (iN (r + on))) 85 28 (air S b (lead V c r s k) (r + on) h q m) := by
      have := hr_up (hr_up ha1 (k := b) hb1 (lead V c r s k)) (k := 4 + b) (by omega) (r + on)
      rwa [ud_0, ud_4] at this
    obtain ⟨I', f1, f2, f3⟩ := fin _ (lead V c r s k) (r + on) 0 (by omega) (ex_trans (ex_trans (ex_mono g2 (by intro a h; simp at h ⊢; omega)) (ex_up (a := 85) (by decide))) (ex_up (by decide))) h5
    refine ⟨I', ?_, f2, ?_⟩
    · simp only [if_neg hi]
      simp (disch := omega) only [iN_lit, iN_add, iN_sub, iN_mul, iN_neg, iN_lt, iN_eq, iN_tn, if_true, if_false, if_pos, if_neg, Option.bind_some]
      exact f1
    · simp only [if_neg hi]
      exact f3
