/-! The class's small methods. -/
theorem cl_min (a b : Int) (ha : -2147483648 ≤ a ∧ a < 2147483648) (hb : -2147483648 ≤ b ∧ b < 2147483648) : fJ9_min (iN a) (iN b) = iN (if b < a then b else a) := by
  unfold fJ9_min; simp (disch := omega) only [iN_lit, iN_add, iN_sub, iN_mul, iN_neg, iN_lt, iN_eq, iN_tn]; split <;> rfl
theorem cl_max (a b : Int) (ha : -2147483648 ≤ a ∧ a < 2147483648) (hb : -2147483648 ≤ b ∧ b < 2147483648) : fJ9_max (iN a) (iN b) = iN (if a < b then b else a) := by
  unfold fJ9_max; simp (disch := omega) only [iN_lit, iN_add, iN_sub, iN_mul, iN_neg, iN_lt, iN_eq, iN_tn]; split <;> rfl
theorem cl_clamp {m x : Int} (hm : 0 ≤ m ∧ m < 100000) (hx : -2147483648 ≤ x ∧ x < 2147483648) : fJ9_max (iN 0) (fJ9_min (iN m) (iN x)) = iN (clamp m x) := by
  rw [cl_min _ _ (by omega) (by omega), cl_max _ _ (by omega) (by split <;> omega)]
  unfold clamp
  congr 1
  by_cases h1 : x < 0
  · rw [if_pos h1, if_pos (show x < m by omega), if_neg (by omega)]
  · rw [if_neg h1]
    by_cases h2 : m < x
    · rw [if_pos h2, if_neg (show ¬ x < m by omega)]; split <;> omega
    · rw [if_neg h2]; split <;> split <;> omega
theorem cl_join {c : Int} (h1 : -17 ≤ c) (h2 : c < -7) (a b : Int32) : fX0_join (iN c) a b = some (jn c a b) := by
  have : c = -17 ∨ c = -16 ∨ c = -15 ∨ c = -14 ∨ c = -13 ∨ c = -12 ∨ c = -11 ∨ c = -10 ∨ c = -9 ∨ c = -8 := by omega
  unfold fX0_join jn
  rcases this with rfl | rfl | rfl | rfl | rfl | rfl | rfl | rfl | rfl | rfl <;> simp (disch := decide) only [iN_lit, iN_neg, iN_eq, Int.reduceNeg, Int.reduceEq, if_true, if_false] <;> (by_cases ha : a = iN 0) <;> (by_cases hb : b = iN 0) <;> (try simp only [ha, hb, if_true, if_false]) <;> (try split) <;> rfl
section CLA
variable {V : (Nat → Int → Int)} {I : (Nat → Nat → Int32)} {r : Nat}
theorem cl_val_l (hw : wfV V) (fo : Nat) (g : Int → Int32) : ∀ (k n z : Nat) (I : (Nat → Nat → Int32)), (z : Int) + k = V 0 5 → k < n → I fo 3 = iN (V 0 5) → hr I (fo + 1) (V 0 5) (V 7) → (∀ j : Int, 0 ≤ j → j < 6 → I (fo + 2) j.toNat = g j) → (∀ j : Int, 0 ≤ j → j < fdep V z → I (fo + 3) j.toNat = (fstk V g z).2 j) →
    ∃ I', fX0_value_L51 n (iN (fdep V z)) (iN z) fo I = some I' ∧ ex [fo + 3] I I' ∧ (∀ j : Int, 0 ≤ j → j < fdep V (z + k) → I' (fo + 3) j.toNat = (fstk V g (z + k)).2 j) := by
  intro k
  induction k with
  | zero =>
    intro n z I hz hn hl hc hg hs
    obtain ⟨u0, u1, u2, u3, u4, u5, u6⟩ := hw
    obtain ⟨n, rfl⟩ : ∃ n', n = n' + 1 := ⟨n - 1, by omega⟩
    refine ⟨I, ?_, ex_refl, hs⟩
    rw [fX0_value_L51]
    simp (disch := omega) only [hl, iN_lit, iN_add, iN_sub, iN_mul, iN_neg, iN_lt, iN_eq, iN_tn, if_true, if_false, if_pos, if_neg]
  | succ k ih =>
    intro n z I hz hn hl hcd hg hs
    obtain ⟨u0, u1, u2, u3, u4, u5, u6⟩ := hw
    obtain ⟨n, rfl⟩ : ∃ n', n = n' + 1 := ⟨n - 1, by omega⟩
    have hc := u5 z (by omega)
    have a1 : I (fo + 1) ((z : Int)).toNat = iN (V 7 z) := hcd z (by omega) (by omega)
    have e1 : ((z + 1 : Nat) : Int) = (z : Int) + 1 := by omega
    have e2 : z + (k + 1) = z + 1 + k := by omega
    have hf : (fstk V g z).1 = fdep V z := fstk_dep V g z
    have nxt : ∀ (j : Int) (x : Int32), ex [fo + 3] I (mm_up I (fo + 3) j.toNat x) := fun j x => ex_up (by simp)
    have go : ∀ (j : Int) (x : Int32), (∀ i : Int, 0 ≤ i → i < fdep V (z + 1) → mm_up I (fo + 3) j.toNat x (fo + 3) i.toNat = (fstk V g (z + 1)).2 i) → ∃ I', fX0_value_L51 n (iN (fdep V (z + 1))) (iN ((z : Int) + 1)) fo (mm_up I (fo + 3) j.toNat x) = some I' ∧ ex [fo + 3] I I' ∧ (∀ j : Int, 0 ≤ j → j < fdep V (z + 1 + k) → I' (fo + 3) j.toNat = (fstk V g (z + 1 + k)).2 j) := by
      intro j x hj
      obtain ⟨I', h1, h2, h3⟩ := ih n (z + 1) (mm_up I (fo + 3) j.toNat x) (by omega) (by omega) (by rw [up_a (by omega)]; exact hl) (fun i h1 h2 => by rw [up_a (by omega)]; exact hcd i h1 h2) (fun i h1 h2 => by rw [up_a (by omega)]; exact hg i h1 h2) hj
      rw [e1] at h1
      exact ⟨I', h1, ex_trans (nxt j x) h2, h3⟩
    rw [e2]
    by_cases c1 : V 7 z < -6
    · by_cases c2 : V 7 z = -7
      · have hdp : fdep V (z + 1) = fdep V z := by rw [fdep, if_pos c1, if_pos c2]
        have s1 := hs (fdep V z - 1) (by omega) (by omega)
        have stp : ∀ x : Int32, x = (if (fstk V g z).2 (fdep V z - 1) = 0 then 1 else 0) → _ := fun x hx => go (fdep V z - 1) x (by
          intro j h1 h2
          simp only [fstk, fst1, if_pos c1, if_pos c2, up_c, hf, ud]
          by_cases hj : j = fdep V z - 1
          · rw [if_pos hj, if_pos (by omega), hx]
          · rw [if_neg hj, if_neg (by omega)]; exact hs j h1 (by omega))
        rw [hdp] at stp
        rw [fX0_value_L51]
        simp (disch := omega) only [hl, iN_pick, iN_put, a1, s1, iN_lit, iN_add, iN_sub, iN_mul, iN_neg, iN_lt, iN_eq, iN_tn, if_true, if_false, if_pos, if_neg, Int.reduceNeg]
        split
        · next h => exact stp 1 (if_pos h).symm
        · next h => exact stp 0 (if_neg h).symm
      · have hdp : fdep V (z + 1) = fdep V z - 1 := by rw [fdep, if_pos c1, if_neg c2]
        have s1 := hs (fdep V z - 1) (by omega) (by omega)
        have s2 := hs (fdep V z - 1 - 1) (by omega) (by omega)
        have stp := go (fdep V z - 1 - 1) (jn (V 7 z) ((fstk V g z).2 (fdep V z - 1 - 1)) ((fstk V g z).2 (fdep V z - 1))) (by
          intro j h1 h2
          have e3 : fdep V z - 1 - 1 = fdep V z - 2 := by omega
          simp only [fstk, fst1, if_pos c1, if_neg c2, up_c, hf, ud, e3]
          by_cases hj : j = fdep V z - 2
          · rw [if_pos hj, if_pos (by omega)]
          · rw [if_neg hj, if_neg (by omega)]; exact hs j h1 (by omega))
        rw [hdp] at stp
        rw [fX0_value_L51]
        simp (disch := omega) only [hl, iN_pick, iN_put, a1, s1, s2, iN_lit, iN_add, iN_sub, iN_mul, iN_neg, iN_lt, iN_eq, iN_tn, if_true, if_false, if_pos, if_neg, Int.reduceNeg, Int.add_neg_eq_sub, cl_join hc.1 (by omega), Option.bind_some]
        exact stp
    · have hdp : fdep V (z + 1) = fdep V z + 1 := by rw [fdep, if_neg c1]
      have stp : ∀ x : Int32, x = (if V 7 z < 0 then g (-1 - V 7 z) else iN (V 7 z)) → _ := fun x hx => go (fdep V z) x (by
        intro j h1 h2
        simp only [fstk, fst1, if_neg c1, up_c, hf, ud]
        by_cases hj : j = fdep V z
        · rw [if_pos hj, if_pos (by omega), hx]
        · rw [if_neg hj, if_neg (by omega)]; exact hs j h1 (by omega))
      rw [hdp] at stp
      by_cases c2 : V 7 z < 0
      · have s1 := hg (-1 - V 7 z) (by omega) (by omega)
        rw [fX0_value_L51]
        simp (disch := omega) only [hl, iN_pick, iN_put, a1, s1, iN_lit, iN_add, iN_sub, iN_mul, iN_neg, iN_lt, iN_eq, iN_tn, if_true, if_false, if_pos, if_neg, Int.reduceNeg]
        exact stp _ (by rw [if_pos c2])
      · rw [fX0_value_L51]
        simp (disch := omega) only [hl, iN_pick, iN_put, a1, iN_lit, iN_add, iN_sub, iN_mul, iN_neg, iN_lt, iN_eq, iN_tn, if_true, if_false, if_pos, if_neg, Int.reduceNeg]
        exact stp _ (by rw [if_neg c2])
theorem cl_warm (hw : wfV V) (hV : clsV V r I) {b row col load made hot : Int} (hb1 : 0 ≤ b) (hb2 : b < V 0 2) {n : Nat} (hn : 302 ≤ n) :
    ∃ I', fX5_warmth n (iN b) (iN row) (iN col) (iN load) (iN made) (iN hot) r I = some (iN (warm V row col load (V 3 b) made hot), I') ∧ ex [r + 3, r + 4] I I' := by
  have hw0 := hw
  obtain ⟨⟨v0, v1, v2, v3, v4, v5, v6⟩, _, _, w3, _, _, _, w7⟩ := hV
  obtain ⟨u0, u1, u2, u3, u4, u5, u6⟩ := hw
  rw [fX5_warmth, fX0_isTold, v5]
  by_cases h0 : V 0 5 = 0
  · refine ⟨I, ?_, ex_refl⟩
    simp (disch := omega) only [iN_lit, iN_add, iN_sub, iN_mul, iN_neg, iN_lt, iN_eq, iN_tn, if_true, if_false, if_pos, if_neg]
    rw [warm, if_pos h0]
  · simp (disch := omega) only [iN_lit, iN_add, iN_sub, iN_mul, iN_neg, iN_lt, iN_eq, iN_tn, if_true, if_false, if_pos, if_neg, fX5_wideOf, iN_pick, w3]
    rw [fX0_value]
    have key : ∀ I1, I1 = (mm_up (mm_up (mm_up (mm_up (mm_up (mm_up I (r + 1 + 2) 0 (iN row)) (r + 1 + 2) 1 (iN col)) (r + 1 + 2) 2 (iN load)) (r + 1 + 2) 3 (iN (V 3 b))) (r + 1 + 2) 4 (iN made)) (r + 1 + 2) 5 (iN hot)) → ex [r + 3, r + 4] I I1 ∧ ∃ I', fX0_value_L51 n (iN 0) (iN 0) (r + 1) I1 = some I' ∧ ex [r + 4] I1 I' ∧ I' (r + 4) 0 = (fstk V (giv row col load (V 3 b) made hot) (V 0 5).toNat).2 0 := by
      intro I1 e
      have hx : ex [r + 3] I I1 := by
        rw [e]
        exact ex_trans (ex_trans (ex_trans (ex_trans (ex_trans (ex_up (by simp)) (ex_up (by simp))) (ex_up (by simp))) (ex_up (by simp))) (ex_up (by simp))) (ex_up (by simp))
      refine ⟨ex_mono hx (by intro a h; simp at h ⊢; omega), ?_⟩
      obtain ⟨I', q1, q2, q3⟩ := cl_val_l hw0 (r + 1) (giv row col load (V 3 b) made hot) (V 0 5).toNat n 0 I1 (by omega) (by omega) (by rw [hx _ (by simp)]; exact v5) (fun z h1 h2 => by rw [hx _ (by simp)]; exact w7 z h1 h2) (by
        intro j h1 h2
        have : j = 0 ∨ j = 1 ∨ j = 2 ∨ j = 3 ∨ j = 4 ∨ j = 5 := by omega
        rw [e]
        rcases this with rfl | rfl | rfl | rfl | rfl | rfl <;> simp [mm_up, giv]) (by intro j h1 h2; rw [fdep] at h2; omega)
      rw [fdep] at q1
      refine ⟨I', q1, q2, ?_⟩
      have := q3 0 (by omega) (by rw [Nat.zero_add]; have := u6; omega)
      rw [Nat.zero_add] at this
      exact this
    obtain ⟨q4, I', q1, q2, q3⟩ := key _ rfl
    refine ⟨I', ?_, ex_trans q4 (ex_mono q2 (by intro a h; simp at h ⊢; omega))⟩
    simp only [iN_lit] at q1 ⊢
    simp (disch := omega) only [q1, Option.bind_some, iN_pick]
    rw [show (0 : Int).toNat = 0 from rfl, show r + 1 + 3 = r + 4 from rfl, q3, warm, if_neg h0, ← iN_of ((fstk V _ (V 0 5).toNat).2 0), cl_clamp (by omega) ⟨iN_lo _, iN_hi _⟩, iN_of]
theorem cl_cell (hw : wfV V) (hV : clsV V r I) (c w : Int) (hc : -2147483648 ≤ c ∧ c < 2147483648) (hw' : -2147483648 ≤ w ∧ w < 2147483648) : fX5_isCell (iN c) (iN w) r I = if 0 ≤ c ∧ c < V 0 0 ∧ 0 ≤ w ∧ w ≤ V 0 1 then iN 1 else iN 0 := by
  obtain ⟨⟨v0, v1, _⟩, _⟩ := hV
  have hu := hw.1
  unfold fX5_isCell
  simp (disch := omega) only [v0, v1, iN_lit, iN_add, iN_sub, iN_mul, iN_neg, iN_lt, iN_eq, iN_tn]
  by_cases h1 : c < 0
  · rw [if_pos h1, if_neg (by omega)]
  · rw [if_neg h1]
    by_cases h2 : c < V 0 0
    · rw [if_pos h2]
      by_cases h3 : w < 0
      · rw [if_pos h3, if_neg (by omega)]
      · rw [if_neg h3]
        by_cases h4 : V 0 1 < w
        · rw [if_pos h4, if_neg (by omega)]
        · rw [if_neg h4, if_pos (by omega)]
    · rw [if_neg h2, if_neg (by omega)]
theorem cl_in (hw : wfV V) (hV : clsV V r I) {c w : Int} (h1 : 0 ≤ c) (h2 : c < V 0 0) (h3 : 0 ≤ w) (h4 : w ≤ V 0 1) : fX5_isCell (iN c) (iN w) r I = iN 1 := by
  have hu := hw.1
  rw [cl_cell hw hV c w (by omega) (by omega), if_pos ⟨h1, h2, h3, h4⟩]
theorem cl_curr (hw : wfV V) (hV : clsV V r I) {c w : Int} (h1 : 0 ≤ c) (h2 : c < V 0 0) (h3 : 0 ≤ w) (h4 : w ≤ V 0 1) : fJ9_max (iN 0) (mf_pick I (r + 5) 56 (fX5_cell (iN c) (iN w))) = iN (V 1 (8 * w + c)) := by
  obtain ⟨_, ⟨F, w1, w0⟩, _⟩ := hV
  have hu := hw.1
  have hF := w0 (w * 8 + c) (by omega) (by omega)
  unfold fX5_cell
  simp (disch := omega) only [iN_lit, iN_add, iN_sub, iN_mul, iN_neg, iN_lt, iN_eq, iN_tn, if_true, if_false, if_pos, if_neg, iN_pick, w1]
  rw [cl_max _ _ (by omega) (by omega), show 8 * w + c = w * 8 + c by omega, hF.2.2]
  congr 1
  split <;> split <;> omega
theorem cl_lead (hw : wfV V) (hV : clsV V r I) {c w s k : Int} (h1 : 0 ≤ c) (h2 : c < V 0 0) (h3 : 0 ≤ w) (h4 : w ≤ V 0 1) (hs : -1 ≤ s ∧ s ≤ 1) (hk : 1 ≤ k ∧ k ≤ 2) : fX5_leadsTo (iN c) (iN w) (iN s) (iN k) r I = iN (lead V c w s k) := by
  have hu := hw.1
  have hcu := hw.2.1 (8 * w + c) (by omega) (by omega)
  have hkc : 0 ≤ k * V 1 (8 * w + c) ∧ k * V 1 (8 * w + c) ≤ 14 := by
    have : k = 1 ∨ k = 2 := by omega
    rcases this with rfl | rfl <;> omega
  unfold fX5_leadsTo
  rw [cl_in hw hV h1 h2 h3 h4]
  simp (disch := omega) only [iN_lit, iN_add, iN_sub, iN_mul, iN_neg, iN_lt, iN_eq, iN_tn, if_true, if_false, if_pos, if_neg, cl_curr hw hV h1 h2 h3 h4, hV.1.1]
  rw [cl_clamp (by omega) (by omega)]
  rfl
theorem cl_iron (hw : wfV V) (hV : clsV V r I) {c w : Int} (h1 : 0 ≤ c) (h2 : c < V 0 0) (h3 : 0 ≤ w) (h4 : w ≤ V 0 1) : fX5_ironAt (iN c) (iN w) r I = if V 2 (8 * w + c) = 1 then iN 1 else iN 0 := by
  have hu := hw.1
  have hir := hw.2.2.1 (8 * w + c) (by omega) (by omega)
  have w2 := hV.2.2.1
  have e : w * 8 + c = 8 * w + c := by omega
  unfold fX5_ironAt fX5_cell
  rw [cl_in hw hV h1 h2 h3 h4]
  simp (disch := omega) only [iN_lit, iN_add, iN_sub, iN_mul, iN_neg, iN_lt, iN_eq, iN_tn, if_true, if_false, if_pos, if_neg, iN_pick, e, w2]
  rcases hir with h | h
  · rw [if_pos (by omega), if_neg (by omega)]
  · rw [if_neg (by omega), if_pos (by omega)]
theorem cl_get (hw : wfV V) {S : Int → Int} (hS : clsS V S I) {b w : Int} (hb1 : 0 ≤ b) (hb2 : b < V 0 2) (hw1 : 0 ≤ w) (hw2 : w < 5) : fX7_get (iN b) (iN w) I = iN (S (4 * w + b)) := by
  obtain ⟨T, h1, h2, _⟩ := hS
  have hu := hw.1
  unfold fX7_get
  simp (disch := omega) only [iN_lit, iN_add, iN_sub, iN_mul, iN_neg, iN_lt, iN_eq, iN_tn, if_true, if_false, if_pos, if_neg, iN_pick, h1]
  rw [h2 b w hb1 hb2 hw1 hw2]
theorem cl_col (hw : wfV V) {S : Int → Int} (hS : clsS V S I) {b : Int} (hb1 : 0 ≤ b) (hb2 : b < V 0 2) : fX7_columnOf (iN b) I = iN (S b) := by
  have := cl_get hw hS hb1 hb2 (w := 0) (by omega) (by omega)
  rw [show 4 * 0 + b = b by omega] at this; exact this
theorem cl_row (hw : wfV V) {S : Int → Int} (hS : clsS V S I) {b : Int} (hb1 : 0 ≤ b) (hb2 : b < V 0 2) : fX7_rowOf (iN b) I = iN (S (4 + b)) := cl_get hw hS hb1 hb2 (w := 1) (by omega) (by omega)
theorem cl_heat (hw : wfV V) {S : Int → Int} (hS : clsS V S I) {b : Int} (hb1 : 0 ≤ b) (hb2 : b < V 0 2) : fX7_heatOf (iN b) I = iN (S (8 + b)) := cl_get hw hS hb1 hb2 (w := 2) (by omega) (by omega)
theorem cl_scor (hw : wfV V) {S : Int → Int} (hS : clsS V S I) {b : Int} (hb1 : 0 ≤ b) (hb2 : b < V 0 2) : fX7_scorchesOf (iN b) I = iN (S (12 + b)) := cl_get hw hS hb1 hb2 (w := 3) (by omega) (by omega)
theorem cl_made (hw : wfV V) {S : Int → Int} (hS : clsS V S I) {b : Int} (hb1 : 0 ≤ b) (hb2 : b < V 0 2) : fX7_strokesOf (iN b) I = iN (S (16 + b)) := cl_get hw hS hb1 hb2 (w := 4) (by omega) (by omega)
theorem cl_place (hw : wfV V) {S : Int → Int} (hS : clsS V S I) {l : Int} (h1 : 0 ≤ l) (h2 : l < V 0 3) : fX7_placeOf (iN l) I = iN (S (20 + l)) := by
  obtain ⟨T, t1, _, t3, _⟩ := hS
  have hu := hw.1
  unfold fX7_placeOf
  simp (disch := omega) only [iN_lit, iN_add, iN_sub, iN_mul, iN_neg, iN_lt, iN_eq, iN_tn, if_true, if_false, if_pos, if_neg, iN_pick, t1]
  rw [t3 l h1 h2]
theorem cl_seed {S : Int → Int} (hS : clsS V S I) : fX7_seed I = iN (S 27) := by
  obtain ⟨T, t1, _, _, t4⟩ := hS
  unfold fX7_seed
  simp (disch := omega) only [iN_lit, iN_add, iN_sub, iN_mul, iN_neg, iN_lt, iN_eq, iN_tn, if_true, if_false, if_pos, if_neg, iN_pick, t1]
  rw [t4]
theorem cl_bur_l (hw : wfV V) (hV : clsV V r I) {S : Int → Int} (hS : clsS V S I) {b : Int} (hb : -3 ≤ b ∧ b < 8) (hp : ∀ l, 0 ≤ l → l < V 0 3 → -2 ≤ S (20 + l) ∧ S (20 + l) < 4) :
    ∀ (k n l : Nat), (l : Int) + k = V 0 3 → k < n → fX7_burdenOf_L4 n (iN b) (iN (bur V S b l)) (iN l) I r = some (iN (burd V S b)) := by
  have hV0 := hV
  obtain ⟨⟨v0, v1, v2, v3, v4, v5, v6⟩, _, _, _, _, _, w6, _⟩ := hV
  have hu := hw.1
  intro k
  induction k with
  | zero =>
    intro n l hl hn
    obtain ⟨n, rfl⟩ : ∃ n', n = n' + 1 := ⟨n - 1, by omega⟩
    have e : (V 0 3).toNat = l := by omega
    rw [fX7_burdenOf_L4]
    simp (disch := omega) only [v3, iN_lit, iN_add, iN_sub, iN_mul, iN_neg, iN_lt, iN_eq, iN_tn, if_true, if_false, if_pos, if_neg, burd, e]
  | succ k ih =>
    intro n l hl hn
    obtain ⟨n, rfl⟩ : ∃ n', n = n' + 1 := ⟨n - 1, by omega⟩
    have h1 := hp l (by omega) (by omega)
    have h2 := ih n (l + 1) (by omega) (by omega)
    have e : ((l + 1 : Nat) : Int) = (l : Int) + 1 := by omega
    rw [e, bur] at h2
    rw [fX7_burdenOf_L4, cl_place hw hS (l := (l : Int)) (by omega) (by omega), fX5_loadWide]
    simp (disch := omega) only [v3, w6, iN_lit, iN_add, iN_sub, iN_mul, iN_neg, iN_lt, iN_eq, iN_tn, if_true, if_false, if_pos, if_neg, iN_pick]
    by_cases h : S (20 + l) = b
    · rw [if_pos h] at h2 ⊢
      exact h2
    · rw [if_neg h, Int.add_zero] at h2
      rw [if_neg h]
      exact h2
theorem cl_burden (hw : wfV V) (hV : clsV V r I) {S : Int → Int} (hS : clsS V S I) {b : Int} (hb : -3 ≤ b ∧ b < 8) (hp : ∀ l, 0 ≤ l → l < V 0 3 → -2 ≤ S (20 + l) ∧ S (20 + l) < 4) {n : Nat} (hn : 8 ≤ n) : fX7_burdenOf n (iN b) I r = some (iN (burd V S b)) := by
  have h := hw.1
  have := cl_bur_l hw hV hS hb hp (V 0 3).toNat n 0 (by omega) (by omega)
  rw [fX7_burdenOf]
  simp only [iN_lit]
  rw [bur, show ((0 : Nat) : Int) = 0 from rfl] at this
  rw [this]
  rfl
end CLA
