/-! The straightest row of strokes: the class, and the method of both. -/
section CLD
variable {V : (Nat → Int → Int)} {S : Int → Int} {r : Nat} {I : (Nat → Nat → Int32)}
theorem fb_in (V : (Nat → Int → Int)) (d : Int) (n : Nat) (hn : n ≤ 6) (s c w : Int) : 0 ≤ fb V s c w (few V d n (lead V c w s 1) (w + 1)) ∧ fb V s c w (few V d n (lead V c w s 1) (w + 1)) ≤ 100 := by
  have := few_in V d n (lead V c w s 1) (w + 1)
  unfold fb
  split
  · omega
  · split <;> omega
theorem cl_by (hw : wfV V) (hV : clsV V r I) {c w s d : Int} (h1 : 0 ≤ c) (h2 : c < V 0 0) (h3 : 0 ≤ w) (h4 : w + 1 ≤ V 0 1) (hs : -1 ≤ s ∧ s ≤ 1) (ht : tbl V (few V d) (w + 1) I) : fX6_fewestBy (iN c) (iN w) (iN s) I r = iN (fb V s c w (few V d (V 0 1 - (w + 1)).toNat (lead V c w s 1) (w + 1))) := by
  have hu := hw.1
  have hl1 := lead_lo hw (c := c) (r := w) (s := s) (k := 1)
  have hl2 := lead_hi hw (c := c) (r := w) (s := s) (k := 1)
  have ht1 := ht (w + 1) (lead V c w s 1) (by omega) (by omega) hl1 hl2
  have ab : fJ9_abs (iN s) = iN (if s = 0 then 0 else 1) := by
    have : s = -1 ∨ s = 0 ∨ s = 1 := by omega
    rcases this with rfl | rfl | rfl <;> rfl
  rw [fX6_fewestBy]
  simp (disch := omega) only [iN_lit, iN_add, iN_mul, fX6_cell, iN_pick, ht1, ab, cl_lead hw hV h1 h2 h3 (by omega) (s := s) (k := 1) hs (by omega), cl_hiss hw hV h1 h2 h3 h4 (s := s) (k := 1) hs (by omega)]
  unfold fb
  by_cases hi : V 2 (8 * (w + 1) + lead V c w s 1) = 1
  · simp only [if_pos hi]
    rw [if_neg (by decide)]
  · simp only [if_neg hi, if_true]
theorem cl_fewest (hw : wfV V) (hV : clsV V r I) {c w d : Int} (h1 : 0 ≤ c) (h2 : c < V 0 0) (h3 : 0 ≤ w) (h4 : w + 1 ≤ V 0 1) (ht : tbl V (few V d) (w + 1) I) {n : Nat} (hn : 4 ≤ n) : fX6_fewestFrom n (iN c) (iN w) I r = some (iN (few V d (V 0 1 - w).toNat c w)) := by
  have hu := hw.1
  obtain ⟨n, rfl⟩ : ∃ n', n = n' + 4 := ⟨n - 4, by omega⟩
  have key : ∀ (s : Int) (m : Nat) (y : Int), -1 ≤ s → s ≤ 1 → 0 ≤ y → y ≤ 100 → fX6_fewestFrom_L6 (m + 1) (iN c) (iN w) (iN y) (iN s) I r = fX6_fewestFrom_L6 m (iN c) (iN w) (iN (mi y (fb V s c w (few V d (V 0 1 - (w + 1)).toNat (lead V c w s 1) (w + 1))))) (iN (s + 1)) I r := by
    intro s m y hs1 hs2 y1 y2
    have hb := fb_in V d (V 0 1 - (w + 1)).toNat (by omega) s c w
    rw [fX6_fewestFrom_L6, cl_by hw hV h1 h2 h3 h4 ⟨hs1, hs2⟩ ht, cl_min _ _ (by omega) (by omega)]
    simp (disch := omega) only [iN_lit, iN_add, iN_sub, iN_mul, iN_neg, iN_lt, iN_eq, iN_tn, if_true, if_false, if_pos, if_neg]
    rfl
  have b0 := fb_in V d (V 0 1 - (w + 1)).toNat (by omega) (-1) c w
  have b1 := fb_in V d (V 0 1 - (w + 1)).toNat (by omega) (-1 + 1) c w
  rw [fX6_fewestFrom]
  simp only [iN_lit, iN_neg]
  rw [key (-1) _ _ (by omega) (by omega) (by omega) (by omega), key (-1 + 1) _ _ (by omega) (by omega) (by unfold mi; split <;> omega) (by unfold mi; split <;> omega), key (-1 + 1 + 1) _ _ (by omega) (by omega) (by unfold mi; split <;> split <;> omega) (by unfold mi; split <;> split <;> omega), fX6_fewestFrom_L6]
  simp (disch := omega) only [iN_lit, iN_add, iN_sub, iN_mul, iN_neg, iN_lt, iN_eq, iN_tn, if_true, if_false, if_pos, if_neg, Option.bind_some]
  rw [show (V 0 1 - w).toNat = (V 0 1 - (w + 1)).toNat + 1 by omega, few]
  rfl
theorem cl_str_a (hr0 : r = 3 ∨ r = 19) (h : cOK V S r I) {b d : Int} (hd : 0 ≤ d ∧ d < V 0 0) {n : Nat} (hn : 30 ≤ n) : ∃ I', fX6_findStraightest_L11 n (iN b) (iN d) (iN 0) I r = some I' ∧ ex [38] I I' ∧ tbl V (few V d) (V 0 1) I' := by
  have hu := h.1.1
  obtain ⟨n', I', h1, h2, h3, h4⟩ := loop (fun n k I => fX6_findStraightest_L11 n (iN b) (iN d) (iN k) I r) 2 (P := V 0 0) (fun k I1 => ex [38] I I1 ∧ ∀ c : Int, 0 ≤ c → c < k → I1 38 (V 0 1 * 8 + c).toNat = iN (if c = d then 0 else 99))
    (by
      intro n k I1 hn h0 h1 ⟨hx, hz⟩
      have hv := (cOK_ex h hx (by rcases hr0 with rfl | rfl <;> decide)).2.2.1.1
      refine ⟨mm_up I1 38 (V 0 1 * 8 + k).toNat (iN (if k = d then 0 else 99)), ?_, ex_trans hx (ex_up (by decide)), ?_⟩
      · show fX6_findStraightest_L11 (n + 1) _ _ _ _ _ = _
        rw [fX6_findStraightest_L11]
        simp (disch := omega) only [iN_lit, iN_add, iN_sub, iN_mul, iN_neg, iN_lt, iN_eq, iN_tn, if_true, if_false, if_pos, if_neg, hv.1, hv.2.1, put_t]
        by_cases e : k = d
        · simp only [if_pos e]
        · simp only [if_neg e]
      · intro c c0 c1
        rw [up_c]
        by_cases e : c = k
        · rw [if_pos (by omega), e]
        · rw [if_neg (by omega)]; exact hz c c0 (by omega)) (V 0 0).toNat n 0 I (by omega) (by omega) ⟨ex_refl, by intro z h1 h2; omega⟩ (by omega)
  refine ⟨I', ?_, h3, ?_⟩
  · have hv := (cOK_ex h h3 (by rcases hr0 with rfl | rfl <;> decide)).2.2.1.1
    have h2' : fX6_findStraightest_L11 n (iN b) (iN d) (iN 0) I r = fX6_findStraightest_L11 n' (iN b) (iN d) (iN (V 0 0)) I' r := h2
    rw [h2']
    obtain ⟨n', rfl⟩ : ∃ m, n' = m + 1 := ⟨n' - 1, by omega⟩
    rw [fX6_findStraightest_L11]
    simp (disch := omega) only [iN_lit, iN_add, iN_sub, iN_mul, iN_neg, iN_lt, iN_eq, iN_tn, if_true, if_false, if_pos, if_neg, hv.1]
  · intro u c u1 u2 c1 c2
    have e : u = V 0 1 := by omega
    subst e
    rw [h4 c c1 c2, Int.sub_self]
    rfl
theorem cl_str_b (hr0 : r = 3 ∨ r = 19) (h : cOK V S r I) {b w d : Int} (hw0 : 0 ≤ w) (hw1 : w + 1 ≤ V 0 1) (ht : tbl V (few V d) (w + 1) I) {n : Nat} (hn : 30 ≤ n) : ∃ I', fX6_findStraightest_L78 n (iN b) (iN w) (iN 0) I r = some I' ∧ ex [38] I I' ∧ tbl V (few V d) w I' := by
  have hu := h.1.1
  obtain ⟨n', I', h1, h2, h3, h4, h5⟩ := loop (fun n k I => fX6_findStraightest_L78 n (iN b) (iN w) (iN k) I r) 5 (P := V 0 0) (fun k I1 => ex [38] I I1 ∧ tbl V (few V d) (w + 1) I1 ∧ ∀ c : Int, 0 ≤ c → c < k → I1 38 (w * 8 + c).toNat = iN (few V d (V 0 1 - w).toNat c w))
    (by
      intro n k I1 hn h0 h1 ⟨hx, htt, hz⟩
      have hc := cOK_ex h hx (by rcases hr0 with rfl | rfl <;> decide)
      have hv := hc.2.2.1.1
      refine ⟨mm_up I1 38 (w * 8 + k).toNat (iN (few V d (V 0 1 - w).toNat k w)), ?_, ex_trans hx (ex_up (by decide)), ?_, ?_⟩
      · show fX6_findStraightest_L78 (n + 1) _ _ _ _ _ = _
        rw [fX6_findStraightest_L78, cl_fewest h.1 hc.2.2.1 h0 h1 hw0 hw1 htt (by omega), Option.bind_some]
        simp (disch := omega) only [iN_lit, iN_add, iN_sub, iN_mul, iN_neg, iN_lt, iN_eq, iN_tn, if_true, if_false, if_pos, if_neg, hv.1, put_t]
      · intro u c u1 u2 c1 c2
        rw [up_c, if_neg (by omega)]
        exact htt u c u1 u2 c1 c2
      · intro c c0 c1
        rw [up_c]
        by_cases e : c = k
        · rw [if_pos (by omega), e]
        · rw [if_neg (by omega)]; exact hz c c0 (by omega)) (V 0 0).toNat n 0 I (by omega) (by omega) ⟨ex_refl, ht, by intro z h1 h2; omega⟩ (by omega)
  refine ⟨I', ?_, h3, ?_⟩
  · have hv := (cOK_ex h h3 (by rcases hr0 with rfl | rfl <;> decide)).2.2.1.1
    rw [h2]
    obtain ⟨n', rfl⟩ : ∃ m, n' = m + 1 := ⟨n' - 1, by omega⟩
    show fX6_findStraightest_L78 (n' + 1) _ _ _ _ _ = _
    rw [fX6_findStraightest_L78]
    simp (disch := omega) only [iN_lit, iN_add, iN_sub, iN_mul, iN_neg, iN_lt, iN_eq, iN_tn, if_true, if_false, if_pos, if_neg, hv.1]
  · intro u c u1 u2 c1 c2
    by_cases e : u = w
    · subst e; exact h5 c c1 c2
    · exact h4 u c (by omega) u2 c1 c2
theorem cl_str_c (hr0 : r = 3 ∨ r = 19) {b d : Int} (hb1 : 0 ≤ b) (hb2 : b < V 0 2) (k : Nat) : ∀ (n : Nat) (w : Int) (I : (Nat → Nat → Int32)), cOK V S r I → w + 1 = S (4 + b) + k → w + 1 ≤ V 0 1 → tbl V (few V d) (w + 1) I → 40 + k ≤ n → ∃ I', fX6_findStraightest_L62 n (iN b) (iN w) I r = some I' ∧ ex [38] I I' ∧ tbl V (few V d) (S (4 + b)) I' := by
  induction k with
  | zero =>
    intro n w I h h1 h2 ht hn
    have hu := h.1.1
    have hs := h.2.1.1 b hb1 hb2
    obtain ⟨n, rfl⟩ : ∃ m, n = m + 1 := ⟨n - 1, by omega⟩
    refine ⟨I, ?_, ex_refl, by rw [show w + 1 = S (4 + b) by omega] at ht; exact ht⟩
    rw [fX6_findStraightest_L62, cl_row h.1 h.2.2.2 hb1 hb2]
    simp (disch := omega) only [iN_lit, iN_add, iN_sub, iN_mul, iN_neg, iN_lt, iN_eq, iN_tn, if_true, if_false, if_pos, if_neg]
  | succ k ih =>
    intro n w I h h1 h2 ht hn
    have hu := h.1.1
    have hs := h.2.1.1 b hb1 hb2
    obtain ⟨n, rfl⟩ : ∃ m, n = m + 1 := ⟨n - 1, by omega⟩
    obtain ⟨I1, g1, g2, g3⟩ := cl_str_b hr0 h (b := b) (w := w) (by omega) h2 ht (n := n) (by omega)
    obtain ⟨I2, f1, f2, f3⟩ := ih n (w - 1) I1 (cOK_ex h g2 (by rcases hr0 with rfl | rfl <;> decide)) (by omega) (by omega) (by rw [show w - 1 + 1 = w by omega]; exact g3) (by omega)
    refine ⟨I2, ?_, ex_trans g2 f2, f3⟩
    rw [fX6_findStraightest_L62, cl_row h.1 h.2.2.2 hb1 hb2]
    simp (disch := omega) only [iN_lit, iN_add, iN_sub, iN_mul, iN_neg, iN_lt, iN_eq, iN_tn, if_true, if_false, if_pos, if_neg]
    rw [g1, Option.bind_some, show w + -1 = w - 1 by omega]
    exact f1
theorem tbl_ex {G : Nat → Int → Int → Int} {w : Int} {l : List Nat} {I' : (Nat → Nat → Int32)} (h : tbl V G w I) (e : ex l I I') (hl : 38 ∉ l) : tbl V G w I' := fun u c u1 u2 c1 c2 => by rw [e 38 hl]; exact h u c u1 u2 c1 c2
theorem cl_follow (hr0 : r = 3 ∨ r = 19) {d : Int} (k : Nat) : ∀ (n : Nat) (c z w : Int) (I : (Nat → Nat → Int32)), cOK V S r I → 0 ≤ c → c < V 0 0 → 0 ≤ w → w + k = V 0 1 → 0 ≤ z → z + k ≤ 6 → tbl V (few V d) w I → 10 + k ≤ n →
    ∃ I', fX6_followTable_L8 n (iN c) (iN z) (iN w) I r = some I' ∧ ex [41] I I' ∧ (∀ i : Nat, i < k → I' 41 (z.toNat + i) = iN ((fol V d k c w).getD i 0 - 1)) ∧ ∀ i : Nat, i < z.toNat → I' 41 i = I 41 i := by
  induction k with
  | zero =>
    intro n c z w I h h1 h2 h3 h4 h5 h6 ht hn
    have hu := h.1.1
    obtain ⟨n, rfl⟩ : ∃ m, n = m + 1 := ⟨n - 1, by omega⟩
    refine ⟨I, ?_, ex_refl, by intro i h; omega, fun _ _ => rfl⟩
    rw [fX6_followTable_L8]
    simp (disch := omega) only [iN_lit, iN_add, iN_sub, iN_mul, iN_neg, iN_lt, iN_eq, iN_tn, if_true, if_false, if_pos, if_neg, h.2.2.1.1.2.1]
  | succ k ih =>
    intro n c z w I h h1 h2 h3 h4 h5 h6 ht hn
    have hu := h.1.1
    obtain ⟨n, rfl⟩ : ∃ m, n = m + 5 := ⟨n - 5, by omega⟩
    have ht1 : tbl V (few V d) (w + 1) I := fun u c u1 u2 c1 c2 => ht u c (by omega) u2 c1 c2
    have hdue := ht w c (by omega) (by omega) h1 h2
    have ek : (V 0 1 - w).toNat = k + 1 := by omega
    have ek1 : (V 0 1 - (w + 1)).toNat = k := by omega
    rw [ek] at hdue
    have hby : ∀ s : Int, -1 ≤ s → s ≤ 1 → fX6_fewestBy (iN c) (iN w) (iN s) I r = iN (fb V s c w (few V d k (lead V c w s 1) (w + 1))) := by
      intro s s1 s2
      rw [cl_by h.1 h.2.2.1 h1 h2 h3 (by omega) ⟨s1, s2⟩ ht1, ek1]
    have hfb := fun s => fb_in V d k (by omega) s c w
    have hfe := few_in V d (k + 1) c w
    have hst : fX6_followTable_L41 (n + 4) (iN c) (iN z) (iN w) (iN (few V d (k + 1) c w)) (iN (-1)) I r = some (iN (stp V d k c w)) := by
      have a0 := hfb (-1)
      have a1 := hfb 0
      rw [fX6_followTable_L41, hby _ (by omega) (by omega)]
      simp (disch := omega) only [iN_lit, iN_add, iN_sub, iN_mul, iN_neg, iN_lt, iN_eq, iN_tn, if_true, if_false, if_pos, if_neg]
      unfold stp
      by_cases c0 : fb V (-1) c w (few V d k (lead V c w (-1) 1) (w + 1)) = few V d (k + 1) c w
      · simp only [if_pos c0]
      · simp only [if_neg c0]
        rw [show (-1 : Int) + 1 = 0 from rfl, fX6_followTable_L41, hby _ (by omega) (by omega)]
        simp (disch := omega) only [iN_lit, iN_add, iN_sub, iN_mul, iN_neg, iN_lt, iN_eq, iN_tn, if_true, if_false, if_pos, if_neg]
        by_cases c1 : fb V 0 c w (few V d k (lead V c w 0 1) (w + 1)) = few V d (k + 1) c w
        · simp only [if_pos c1]
        · simp only [if_neg c1]
          rw [show (0 : Int) + 1 = 1 from rfl, fX6_followTable_L41]
          simp (disch := omega) only [iN_lit, iN_add, iN_sub, iN_mul, iN_neg, iN_lt, iN_eq, iN_tn, if_true, if_false, if_pos, if_neg]
    have hs1 : -1 ≤ stp V d k c w ∧ stp V d k c w ≤ 1 := by unfold stp; split <;> (try split) <;> omega
    have hcc := cOK_ex h (l := [41]) (I' := mm_up I 41 z.toNat (iN (stp V d k c w))) (ex_up (by decide)) (by rcases hr0 with rfl | rfl <;> decide)
    obtain ⟨I', f1, f2, f3, f4⟩ := ih (n + 4) (lead V c w (stp V d k c w) 1) (z + 1) (w + 1) (mm_up I 41 z.toNat (iN (stp V d k c w))) hcc (lead_lo h.1) (lead_hi h.1) (by omega) (by omega) (by omega) (by omega) (tbl_ex ht1 (ex_up (l := [41]) (by decide)) (by decide)) (by omega)
    refine ⟨I', ?_, ex_trans (ex_up (by decide)) f2, ?_, ?_⟩
    · rw [fX6_followTable_L8, fX6_cell]
      simp (disch := omega) only [iN_lit, iN_add, iN_sub, iN_mul, iN_neg, iN_lt, iN_eq, iN_tn, if_true, if_false, if_pos, if_neg, h.2.2.1.1.2.1, iN_pick, hdue]
      rw [hst, Option.bind_some]
      simp (disch := omega) only [iN_put]
      rw [cl_lead h.1 hcc.2.2.1 h1 h2 h3 (by omega) hs1 (by omega)]
      exact f1
    · intro i hi
      by_cases e : i = 0
      · subst e
        rw [Nat.add_zero, f4 z.toNat (by omega), up_eq, fol, List.getD_cons_zero, Int.add_sub_cancel]
      · obtain ⟨j, rfl⟩ : ∃ j, i = j + 1 := ⟨i - 1, by omega⟩
        rw [fol, List.getD_cons_succ, show z.toNat + (j + 1) = (z + 1).toNat + j by omega]
        exact f3 j (by omega)
    · intro i hi
      rw [f4 i (by omega), up_k (by omega)]
theorem cl_straight (hr0 : r = 3 ∨ r = 19) (h : cOK V S r I) {b d : Int} (hb1 : 0 ≤ b) (hb2 : b < V 0 2) (hd : 0 ≤ d ∧ d < V 0 0) {n : Nat} (hn : 60 ≤ n) :
    ∃ I', fX6_findStraightest n (iN b) (iN d) I r = some (iN (worth (-1) (fmin (fS V d (S b) (S (4 + b))) none (lex 3 (lft V S b)))), I') ∧ ex [38, 41] I I' ∧ ∀ z : Nat, z < (lays (fmin (fS V d (S b) (S (4 + b))) none (lex 3 (lft V S b)))).length → I' 41 z = iN ((lays (fmin (fS V d (S b) (S (4 + b))) none (lex 3 (lft V S b)))).getD z 0) := by
  have hu := h.1.1
  have hs := h.2.1.1 b hb1 hb2
  obtain ⟨l6, l7⟩ := lft_le h.1 h.2.1 hb1 hb2
  obtain ⟨I1, g1, g2, g3⟩ := cl_str_a hr0 h (b := b) hd (n := n) (by omega)
  have h1 := cOK_ex h g2 (by rcases hr0 with rfl | rfl <;> decide)
  obtain ⟨I2, f1, f2, f3⟩ := cl_str_c (d := d) hr0 hb1 hb2 (lft V S b) n (V 0 1 - 1) I1 h1 (by omega) (by omega) (by rw [show V 0 1 - 1 + 1 = V 0 1 by omega]; exact g3) (by omega)
  have h2 := cOK_ex h1 f2 (by rcases hr0 with rfl | rfl <;> decide)
  have ht := f3 (S (4 + b)) (S b) (by omega) (by omega) (by omega) (by omega)
  rw [show (V 0 1 - S (4 + b)).toNat = lft V S b from rfl] at ht
  have hfe := few_in V d (lft V S b) (S b) (S (4 + b))
  rw [fX6_findStraightest]
  simp only [iN_lit]
  rw [g1, Option.bind_some, h1.2.2.1.1.2.1, iN_sub, f1, Option.bind_some, cl_col h.1 h2.2.2.2 hb1 hb2, cl_row h.1 h2.2.2.2 hb1 hb2, fX6_cell]
  simp (disch := omega) only [iN_lit, iN_mul, iN_add, iN_pick, ht, iN_lt]
  rw [st_eq V d _ l6]
  by_cases h9 : few V d (lft V S b) (S b) (S (4 + b)) < 99
  · rw [if_pos h9, if_pos h9, fX6_followTable]
    obtain ⟨I3, e1, e2, e3, e4⟩ := cl_follow hr0 (d := d) (lft V S b) n (S b) 0 (S (4 + b)) I2 h2 (by omega) (by omega) (by omega) l7 (by omega) (by omega) f3 (by omega)
    rw [iN_lit, e1]
    refine ⟨I3, rfl, ex_trans (ex_mono g2 (by decide)) (ex_trans (ex_mono f2 (by decide)) (ex_mono e2 (by decide))), ?_⟩
    intro z hz
    rw [lays, List.length_map, fol_len] at hz
    have := e3 z hz
    rw [show (0 : Int).toNat + z = z by omega] at this
    rw [this, lays, List.getD_eq_getElem?_getD, List.getD_eq_getElem?_getD, List.getElem?_map, List.getElem?_eq_getElem (by rw [fol_len]; exact hz)]
    rfl
  · rw [if_neg h9, if_neg h9]
    refine ⟨I2, rfl, ex_trans (ex_mono g2 (by decide)) (ex_mono f2 (by decide)), ?_⟩
    intro z hz
    rw [lays] at hz
    exact absurd hz (by simp)
/-- what straight answers, and what lies then -/
def sSt (V : (Nat → Int → Int)) (S : Int → Int) (b d : Int) : Option (Int × List Int) := if (0 ≤ b ∧ b < V 0 2) ∧ 0 ≤ d ∧ d < V 0 0 then fmin (fS V d (S b) (S (4 + b))) none (lex 3 (lft V S b)) else none
theorem lays_len {x : Option (Int × List Int)} {V : (Nat → Int → Int)} {d c w : Int} {k : Nat} (h : x = fmin (fS V d c w) none (lex 3 k)) : (lays x).length = k ∨ x = none := by
  cases e : x with
  | none => right; rfl
  | some p =>
    left
    obtain ⟨v, t⟩ := p
    rw [e] at h
    have := fmin_mem _ _ _ _ _ h.symm
    rcases this with h | ⟨h1, _⟩
    · cases h
    · rw [lays, List.length_map]; exact (lex_mem k t h1).1
theorem clr_cl : cl [] (fX3_clear I) := ⟨by rw [fX3_clear, up_eq]; rfl, by intro z h; exact absurd h (by simp)⟩
theorem clr_ex : ex [35, 36] I (fX3_clear I) := ex_up (by decide)
theorem cl_Straight (hr0 : r = 3 ∨ r = 19) (h : cOK V S r I) {b d : Int} (hb : -2147483648 ≤ b ∧ b < 2147483648) (hd : -2147483648 ≤ d ∧ d < 2147483648) {n : Nat} (hn : 60 ≤ n) :
    ∃ I', fX11_straight n (iN b) (iN d) I r = some (iN (worth (-1) (sSt V S b d)), I') ∧ ex [35, 36, 38, 41] I I' ∧ cl (lays (sSt V S b d)) I' := by
  have hu := h.1.1
  have h1 : cOK V S r (fX3_clear I) := cOK_ex h clr_ex (by rcases hr0 with rfl | rfl <;> decide)
  rw [fX11_straight, cl_board h1 hb, h1.2.2.1.1.1]
  simp only [fX11_straight_J36, iN_lit]
  by_cases hb' : 0 ≤ b ∧ b < V 0 2
  · rw [if_pos hb', ite_n n10]
    simp (disch := omega) only [iN_lt]
    by_cases hd1 : d < 0
    · rw [if_pos hd1]
      have : sSt V S b d = none := by unfold sSt; rw [if_neg (by omega)]
      rw [this]
      exact ⟨_, rfl, ex_mono clr_ex (by decide), clr_cl⟩
    · rw [if_neg hd1]
      by_cases hd2 : d < V 0 0
      · rw [if_pos hd2]
        have es : sSt V S b d = fmin (fS V d (S b) (S (4 + b))) none (lex 3 (lft V S b)) := by unfold sSt; rw [if_pos ⟨hb', by omega⟩]
        obtain ⟨l6, l7⟩ := lft_le h.1 h.2.1 hb'.1 hb'.2
        obtain ⟨I2, g1, g2, g3⟩ := cl_straight hr0 h1 hb'.1 hb'.2 ⟨by omega, hd2⟩ hn
        rw [← es] at g1 g3
        rw [g1, Option.bind_some]
        have h2 := cOK_ex h1 g2 (by rcases hr0 with rfl | rfl <;> decide)
        cases e : sSt V S b d with
        | none =>
          refine ⟨I2, ?_, ex_trans (ex_mono clr_ex (by decide)) (ex_mono g2 (by decide)), by rw [g2 35 (by decide)]; exact clr_cl.1, by intro z hz; exact absurd hz (by rw [lays]; simp)⟩
          exact if_pos rfl
        | some p =>
          obtain ⟨v, t⟩ := p
          rw [e] at g3 es
          have hm := fmin_mem _ _ _ _ _ es.symm
          rcases hm with hm | ⟨m1, m2⟩
          · cases hm
          have tl := (lex_mem _ _ m1).1
          have hv : 0 ≤ v ∧ v ≤ 6 := by
            have := trn_in t
            rw [fS] at m2
            split at m2
            · injection m2 with m2; omega
            · cases m2
          have ll : (lays (some (v, t))).length = lft V S b := by rw [lays, List.length_map, tl]
          obtain ⟨I3, a1, a2, a3⟩ := cl_all_41 (I := I2) (l := lays (some (v, t))) (by omega) (by rw [g2 35 (by decide)]; exact clr_cl.1) g3 (n := n) (by omega)
          refine ⟨I3, ?_, ex_trans (ex_mono clr_ex (by decide)) (ex_trans (ex_mono g2 (by decide)) (ex_mono a2 (by decide))), a3⟩
          show (if iN v = -iN 1 then _ else _) = _
          simp (disch := omega) only [iN_neg, iN_eq]
          rw [if_neg (by omega), fX7_strokesLeft, cl_row h.1 h2.2.2.2 hb'.1 hb'.2, h2.2.2.1.1.2.1, iN_sub, show V 0 1 - S (4 + b) = ((lays (some (v, t))).length : Int) by rw [ll]; omega, a1]
          rfl
      · rw [if_neg hd2]
        have : sSt V S b d = none := by unfold sSt; rw [if_neg (by omega)]
        rw [this]
        exact ⟨_, rfl, ex_mono clr_ex (by decide), clr_cl⟩
  · rw [if_neg hb', ite_p rfl]
    have : sSt V S b d = none := by unfold sSt; rw [if_neg (fun hh => hb' hh.1)]
    rw [this]
    exact ⟨_, rfl, ex_mono clr_ex (by decide), clr_cl⟩
theorem rl_0 : rl [] (mm_up I 62 61 (iN 0)) := ⟨by rw [up_eq]; rfl, by intro z h; exact absurd h (by simp)⟩
theorem rf_Straight (h : rOK V S I) {b d : Int} (hb : -2147483648 ≤ b ∧ b < 2147483648) (hd : -2147483648 ≤ d ∧ d < 2147483648) {n : Nat} (hn : 1100 ≤ n) :
    ∃ I', fX12_straight n (iN b) (iN d) I = some (iN (worth (-1) (sSt V S b d)), I') ∧ xf [70, 71, 85, 87, 88, 1061] I I' ∧ rl (lays (sSt V S b d)) I' := by
  have hu := h.1.1
  have x1 : xf [70, 71, 85, 87, 88, 1061] I (mm_up I 62 61 (iN 0)) := xf_u62 (by decide)
  have h1 : rOK V S (mm_up I 62 61 (iN 0)) := rOK_xf h x1 (by decide)
  rw [fX12_straight]
  simp only [iN_lit, h.2.2.1.1.1, iN_sub]
  rw [rf_board h1 hb, Option.bind_some, rf_in hd (by omega) (by omega)]
  by_cases hb' : 0 ≤ b ∧ b < V 0 2
  · rw [if_pos hb', ite_n n10]
    by_cases hd' : 0 ≤ d ∧ d ≤ V 0 0 - 1
    · rw [if_pos hd', ite_n n10]
      have es : sSt V S b d = fmin (fS V d (S b) (S (4 + b))) none (lex 3 (lft V S b)) := by unfold sSt; rw [if_pos ⟨hb', by omega⟩]
      obtain ⟨l6, l7⟩ := lft_le h.1 h.2.1 hb'.1 hb'.2
      obtain ⟨I2, g1, g2, g3⟩ := rf_straight h1 hb'.1 hb'.2 (d := d) (by omega) rl_0 hn
      rw [← es] at g1 g3
      rw [g1, Option.bind_some]
      refine ⟨I2, ?_, xf_trans x1 g2, g3⟩
      cases e : sSt V S b d with
      | none => exact if_pos rfl
      | some p =>
        obtain ⟨v, t⟩ := p
        rw [e] at es
        have hm := fmin_mem _ _ _ _ _ es.symm
        rcases hm with hm | ⟨m1, m2⟩
        · cases hm
        have tl := (lex_mem _ _ m1).1
        have hv : 0 ≤ v ∧ v ≤ 6 := by
          have := trn_in t
          rw [fS] at m2
          split at m2
          · injection m2 with m2; omega
          · cases m2
        show (if iN v = iN 1000000 then _ else _) = _
        simp (disch := omega) only [iN_eq]
        rw [if_neg (by omega)]
        rfl
    · rw [if_neg hd', ite_p rfl]
      have : sSt V S b d = none := by unfold sSt; rw [if_neg (by omega)]
      rw [this]
      exact ⟨_, rfl, x1, rl_0⟩
  · rw [if_neg hb', ite_p rfl]
    have : sSt V S b d = none := by unfold sSt; rw [if_neg (fun hh => hb' hh.1)]
    rw [this]
    exact ⟨_, rfl, x1, rl_0⟩
end CLD
