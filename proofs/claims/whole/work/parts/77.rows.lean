/-! Drift and rows of both. -/
theorem dig_1 (n : Nat) : dig 3 n ((3 ^ n - 1) / 2) = List.replicate n 1 ∧ (3 ^ n - 1) / 2 < 3 ^ n ∧ 1 ≤ 3 ^ n := by
  induction n with
  | zero => exact ⟨rfl, by decide, by decide⟩
  | succ n ih =>
    have e : (3 ^ (n + 1) - 1) / 2 = 1 * 3 ^ n + (3 ^ n - 1) / 2 := by rw [Nat.pow_succ]; omega
    refine ⟨?_, by rw [Nat.pow_succ]; omega, by rw [Nat.pow_succ]; omega⟩
    rw [e, dig_cons (by omega) n (by omega) ih.2.1, ih.1]
    rfl
/-- where an unsteered board lands, or -1 -/
def dft (V : (Nat → Int → Int)) (n : Nat) (c r : Int) : Int := match rc V (List.replicate n 1) c r with
  | none => -1
  | some d => d
theorem rf_in {a l m : Int} (h1 : -2147483648 ≤ a ∧ a < 2147483648) (h2 : -2147483648 ≤ l ∧ l < 2147483648) (h3 : -2147483648 ≤ m ∧ m < 2147483648) : fX12_isIn (iN a) (iN l) (iN m) = if l ≤ a ∧ a ≤ m then iN 1 else iN 0 := by
  rw [fX12_isIn]
  simp (disch := omega) only [iN_lit, iN_add, iN_sub, iN_mul, iN_neg, iN_lt, iN_eq, iN_tn]
  by_cases h1 : a < l
  · rw [if_pos h1, if_neg (by omega)]
  · rw [if_neg h1]
    by_cases h2 : m < a
    · rw [if_pos h2, if_neg (by omega)]
    · rw [if_neg h2, if_pos (by omega)]
theorem bool_ok {p : Prop} [Decidable p] : (if (if p then iN 1 else iN 0) = iN 0 ∨ (if p then iN 1 else iN 0) = iN 1 then some (if p then iN 1 else iN 0) else none) = some (if p then iN 1 else iN 0) := by
  by_cases h : p
  · rw [if_pos h, if_pos (Or.inr rfl)]
  · rw [if_neg h, if_pos (Or.inl rfl)]
theorem rf_board {V : (Nat → Int → Int)} {S : Int → Int} {I : (Nat → Nat → Int32)} (h : rOK V S I) {b : Int} (hb : -2147483648 ≤ b ∧ b < 2147483648) : fX12_isBoard (iN b) I = some (if 0 ≤ b ∧ b < V 0 2 then iN 1 else iN 0) := by
  have hu := h.1.1
  rw [fX12_isBoard]
  simp only [iN_lit, h.2.2.1.1.2.2.1, iN_sub]
  rw [rf_in hb (by omega) (by omega), bool_ok]
  have : (0 ≤ b ∧ b ≤ V 0 2 - 1) = (0 ≤ b ∧ b < V 0 2) := by apply propext; omega
  simp only [this]
theorem rf_load {V : (Nat → Int → Int)} {S : Int → Int} {I : (Nat → Nat → Int32)} (h : rOK V S I) {b : Int} (hb : -2147483648 ≤ b ∧ b < 2147483648) : fX12_isLoad (iN b) I = some (if 0 ≤ b ∧ b < V 0 3 then iN 1 else iN 0) := by
  have hu := h.1.1
  rw [fX12_isLoad]
  simp only [iN_lit, h.2.2.1.1.2.2.2.1, iN_sub]
  rw [rf_in hb (by omega) (by omega), bool_ok]
  have : (0 ≤ b ∧ b ≤ V 0 3 - 1) = (0 ≤ b ∧ b < V 0 3) := by apply propext; omega
  simp only [this]
theorem rf_drift {V : (Nat → Int → Int)} {S : Int → Int} {I : (Nat → Nat → Int32)} (h : rOK V S I) {b : Int} (hb : -2147483648 ≤ b ∧ b < 2147483648) {n : Nat} (hn : 340 ≤ n) :
    ∃ I', fX12_drift n (iN b) I = some (if 0 ≤ b ∧ b < V 0 2 then iN (dft V (lft V S b) (S b) (S (4 + b))) else iN (-1), I') ∧ ex [70, 71, 85, 87] I I' := by
  have hu := h.1.1
  rw [fX12_drift, rf_board h hb, Option.bind_some]
  by_cases hh : 0 ≤ b ∧ b < V 0 2
  · obtain ⟨hb1, hb2⟩ := hh
    have hs := h.2.1.1 b hb1 hb2
    obtain ⟨l6, _⟩ := lft_le h.1 h.2.1 hb1 hb2
    have p3 := p3_le l6
    obtain ⟨d1, d2, d3⟩ := dig_1 (lft V S b)
    simp only [if_pos (And.intro hb1 hb2), iN_lit]
    rw [if_neg (by decide), fX12_unsteered, rf_left2 h hb1 hb2, Option.bind_some, iN_lit, rf_pow3 l6 (by omega), Option.bind_some, Option.bind_some]
    obtain ⟨I', g1, g2, g3, g4⟩ := rf_row h hb1 hb2 (k := (3 ^ lft V S b - 1) / 2) (by omega) (n := n) (by omega)
    simp (disch := omega) only [iN_lit, iN_add, iN_sub, iN_mul, iN_neg, iN_lt, iN_eq, iN_tn, iN_div]
    rw [show (((3 ^ lft V S b - 1) / 2 : Nat) : Int) = (((3 ^ lft V S b : Nat) : Int) - 1) / 2 by omega] at g1
    rw [g1, Option.bind_some, d1]
    rw [d1] at g4
    refine ⟨I', ?_, g2⟩
    unfold dft
    cases e : rc V (List.replicate (lft V S b) 1) (S b) (S (4 + b)) with
    | none => rfl
    | some d =>
      have e2 := run_rc V b (burd V S b) (List.replicate (lft V S b) 1) (S b) (S (4 + b)) (S (8 + b)) (S (12 + b)) (S (16 + b))
      rw [e] at e2
      obtain ⟨x, hx1, hx2⟩ := Option.map_eq_some_iff.mp e2
      have := (g4 x.1 x.2.1 x.2.2 hx1).1
      rw [hx2] at this
      simp only [Option.isSome_some, if_true, this]
      simp (disch := omega) only [if_neg]
      rw [if_neg (by decide)]
  · simp only [if_neg hh, iN_lit]
    exact ⟨I, by rw [if_pos trivial]; rfl, ex_refl⟩
def gc (V : (Nat → Int → Int)) (c r : Int) (x : Int) (t : List Int) : Int := if (rc V t c r).isSome = true then x + 1 else x
theorem gc_lex (V : (Nat → Int → Int)) (n : Nat) : ∀ (c r : Int) (x : Int), (lex 3 n).foldl (gc V c r) x = x + cnt V n c r := by
  induction n with
  | zero => intro c r x; rfl
  | succ n ih =>
    intro c r x
    have key : ∀ (a : Int) (x : Int), ((lex 3 n).map (fun t => a :: t)).foldl (gc V c r) x = x + (if V 2 (8 * (r + 1) + lead V c r (a - 1) 1) = 1 then 0 else cnt V n (lead V c r (a - 1) 1) (r + 1)) := by
      intro a x
      rw [List.foldl_map]
      by_cases hi : V 2 (8 * (r + 1) + lead V c r (a - 1) 1) = 1
      · rw [if_pos hi, Int.add_zero]
        have : ∀ l : List (List Int), l.foldl (fun x t => gc V c r x (a :: t)) x = x := by
          intro l
          induction l with
          | nil => rfl
          | cons t l ih2 =>
            have : gc V c r x (a :: t) = x := by rw [gc, rc, if_pos hi]; rfl
            rw [List.foldl_cons, this, ih2]
        exact this _
      · rw [if_neg hi, ← ih]
        have : (fun x t => gc V c r x (a :: t)) = gc V (lead V c r (a - 1) 1) (r + 1) := by
          funext x t; rw [gc, gc, rc, if_neg hi]
        rw [this]
    rw [lex3, List.foldl_append, List.foldl_append, key, key, key, cnt, Int.add_assoc, Int.add_assoc]
    rfl
theorem gc_in (V : (Nat → Int → Int)) (c r : Int) (l : List (List Int)) : ∀ x : Int, x ≤ l.foldl (gc V c r) x ∧ l.foldl (gc V c r) x ≤ x + l.length := by
  induction l with
  | nil => intro x; simp
  | cons t l ih =>
    intro x
    have := ih (gc V c r x t)
    rw [List.foldl_cons, List.length_cons]
    have h2 : x ≤ gc V c r x t ∧ gc V c r x t ≤ x + 1 := by unfold gc; split <;> omega
    omega
theorem rf_rows {V : (Nat → Int → Int)} {S : Int → Int} {I : (Nat → Nat → Int32)} (h : rOK V S I) {b : Int} (hb : -2147483648 ≤ b ∧ b < 2147483648) {n : Nat} (hn : 1100 ≤ n) :
    ∃ I', fX12_rows n (iN b) I = some (if 0 ≤ b ∧ b < V 0 2 then iN (cnt V (lft V S b) (S b) (S (4 + b))) else iN (-1), I') ∧ ex [70, 71, 85, 87] I I' := by
  have hu := h.1.1
  rw [fX12_rows, rf_board h hb, Option.bind_some]
  by_cases hh : 0 ≤ b ∧ b < V 0 2
  · obtain ⟨hb1, hb2⟩ := hh
    have hs := h.2.1.1 b hb1 hb2
    obtain ⟨l6, _⟩ := lft_le h.1 h.2.1 hb1 hb2
    have p3 := p3_le l6
    simp only [if_pos (And.intro hb1 hb2), iN_lit]
    rw [if_neg (by decide)]
    obtain ⟨n', s, h1, h2, h3, h4⟩ := loop (fun n k (s : Int × (Nat → Nat → Int32)) => fX12_rows_L14 n (iN b) (iN s.1) (iN k) s.2) 340 (P := ((3 ^ lft V S b : Nat) : Int)) (fun k s => ex [70, 71, 85, 87] I s.2 ∧ s.1 = ((List.range k.toNat).map (dig 3 (lft V S b))).foldl (gc V (S b) (S (4 + b))) 0)
      (by
        intro n k s hn h0 h1 ⟨hx, hz⟩
        have R := rOK_ex h hx (by decide)
        obtain ⟨I', g1, g2, g3, g4⟩ := rf_row R hb1 hb2 (k := k.toNat) (by omega) (n := n) (by omega)
        rw [show ((k.toNat : Nat) : Int) = k by omega] at g1
        refine ⟨(gc V (S b) (S (4 + b)) s.1 (dig 3 (lft V S b) k.toNat), I'), ?_, ex_trans hx g2, ?_⟩
        · show fX12_rows_L14 (n + 1) _ _ _ _ = _
          rw [fX12_rows_L14, rf_left2 R hb1 hb2, Option.bind_some, iN_lit, rf_pow3 l6 (by omega), Option.bind_some]
          simp (disch := omega) only [iN_lit, iN_add, iN_sub, iN_mul, iN_neg, iN_lt, iN_eq, iN_tn, if_true, if_false, if_pos, if_neg]
          rw [g1, Option.bind_some]
          unfold gc
          split
          · rw [show fX12_truth (iN 1) = iN 1 from rfl, iN_add]
          · rw [show fX12_truth (iN 0) = iN 0 from rfl, iN_add, Int.add_zero]
        · rw [fold_s _ _ _ _ h0, ← hz]) (3 ^ lft V S b) n 0 (0, I) (by omega) (by omega) ⟨ex_refl, rfl⟩ (by omega)
    refine ⟨s.2, ?_, h3⟩
    have R := rOK_ex h h3 (by decide)
    rw [h2]
    obtain ⟨n', rfl⟩ : ∃ m, n' = m + 1 := ⟨n' - 1, by omega⟩
    show (fX12_rows_L14 (n' + 1) _ _ _ _).bind _ = _
    rw [fX12_rows_L14, rf_left2 R hb1 hb2, Option.bind_some, iN_lit, rf_pow3 l6 (by omega), Option.bind_some]
    simp only [iN_lit]
    rw [if_neg (iN_ir _)]
    rw [h4, fold_a _ _ (by omega), gc_lex, Int.zero_add]
    rfl
  · simp only [if_neg hh, iN_lit]
    exact ⟨I, by rw [if_pos trivial]; rfl, ex_refl⟩
section CLC
variable {V : (Nat → Int → Int)} {S : Int → Int} {r : Nat} {I : (Nat → Nat → Int32)}
theorem cl_board (h : cOK V S r I) {b : Int} (hb : -2147483648 ≤ b ∧ b < 2147483648) : fX7_isBoard (iN b) I r = if 0 ≤ b ∧ b < V 0 2 then iN 1 else iN 0 := by
  have hu := h.1.1
  rw [fX7_isBoard]
  simp (disch := omega) only [iN_lit, iN_add, iN_sub, iN_mul, iN_neg, iN_lt, iN_eq, iN_tn, h.2.2.1.1.2.2.1]
  by_cases h1 : b < 0
  · rw [if_pos h1, if_neg (by omega)]
  · rw [if_neg h1]
    by_cases h2 : b < V 0 2
    · rw [if_pos h2, if_pos (by omega)]
    · rw [if_neg h2, if_neg (by omega)]
theorem cl_drift_l (hw : wfV V) (hV : clsV V r I) (k : Nat) : ∀ (n : Nat) (c w : Int), 0 ≤ c → c < V 0 0 → 0 ≤ w → w + k = V 0 1 → k < n → (fX6_unsteered_L27 n (iN c) (iN w) I r).bind (fun o => (match o with | .inl va1959 => some va1959 | .inr vb1959 => some vb1959)) = some (iN (dft V k c w)) := by
  have hu := hw.1
  induction k with
  | zero =>
    intro n c w h1 h2 h3 h4 hn
    obtain ⟨n, rfl⟩ : ∃ m, n = m + 1 := ⟨n - 1, by omega⟩
    rw [fX6_unsteered_L27]
    simp (disch := omega) only [iN_lit, iN_add, iN_sub, iN_mul, iN_neg, iN_lt, iN_eq, iN_tn, if_true, if_false, if_pos, if_neg, hV.1.2.1, Option.bind_some]
    rfl
  | succ k ih =>
    intro n c w h1 h2 h3 h4 hn
    obtain ⟨n, rfl⟩ : ∃ m, n = m + 1 := ⟨n - 1, by omega⟩
    rw [fX6_unsteered_L27]
    simp (disch := omega) only [iN_lit, iN_add, iN_sub, iN_mul, iN_neg, iN_lt, iN_eq, iN_tn, if_true, if_false, if_pos, if_neg, hV.1.2.1, cl_lead hw hV h1 h2 h3 (by omega) (s := 0) (k := 1) (by omega) (by omega), cl_hiss hw hV h1 h2 h3 (by omega) (s := 0) (k := 1) (by omega) (by omega)]
    by_cases hi : V 2 (8 * (w + 1) + lead V c w 0 1) = 1
    · have : dft V (k + 1) c w = -1 := by
        unfold dft
        rw [List.replicate_succ, rc, show (1 : Int) - 1 = 0 from rfl, if_pos hi]
      simp only [if_pos hi]
      rw [this, if_neg (by decide)]
      rfl
    · have : dft V (k + 1) c w = dft V k (lead V c w 0 1) (w + 1) := by
        unfold dft
        rw [List.replicate_succ, rc, show (1 : Int) - 1 = 0 from rfl, if_neg hi]
      simp only [if_neg hi, if_true]
      rw [this]
      exact ih n _ _ (lead_lo hw) (lead_hi hw) (by omega) (by omega) (by omega)
theorem cl_drift (h : cOK V S r I) {b : Int} (hb : -2147483648 ≤ b ∧ b < 2147483648) {n : Nat} (hn : 30 ≤ n) : fX11_drift n (iN b) I r = some (if 0 ≤ b ∧ b < V 0 2 then iN (dft V (lft V S b) (S b) (S (4 + b))) else iN (-1)) := by
  have hu := h.1.1
  rw [fX11_drift, cl_board h hb]
  by_cases hh : 0 ≤ b ∧ b < V 0 2
  · obtain ⟨hb1, hb2⟩ := hh
    have hs := h.2.1.1 b hb1 hb2
    obtain ⟨l6, l7⟩ := lft_le h.1 h.2.1 hb1 hb2
    simp only [if_pos (And.intro hb1 hb2), iN_lit]
    rw [if_neg (by decide), fX6_unsteered, cl_col h.1 h.2.2.2 hb1 hb2, cl_row h.1 h.2.2.2 hb1 hb2]
    exact congrArg (fun o => Option.bind o (fun x => some x)) (cl_drift_l h.1 h.2.2.1 (lft V S b) n (S b) (S (4 + b)) (by omega) (by omega) (by omega) l7 (by omega))
  · simp only [if_neg hh, iN_lit]
    rw [if_pos trivial]; rfl
/-- the table holds G from the row w on -/
def tbl (V : (Nat → Int → Int)) (G : Nat → Int → Int → Int) (w : Int) (I : (Nat → Nat → Int32)) : Prop := ∀ u c : Int, w ≤ u → u ≤ V 0 1 → 0 ≤ c → c < V 0 0 → I 38 (u * 8 + c).toNat = iN (G (V 0 1 - u).toNat c u)
theorem cl_ways (hw : wfV V) (hV : clsV V r I) {c w : Int} (h1 : 0 ≤ c) (h2 : c < V 0 0) (h3 : 0 ≤ w) (h4 : w + 1 ≤ V 0 1) (ht : tbl V (cnt V) (w + 1) I) {n : Nat} (hn : 4 ≤ n) : fX6_waysFrom n (iN c) (iN w) I r = some (iN (cnt V (V 0 1 - w).toNat c w)) := by
  have hu := hw.1
  obtain ⟨n, rfl⟩ : ∃ n', n = n' + 4 := ⟨n - 4, by omega⟩
  have key : ∀ (s : Int) (m : Nat) (y : Int), -1 ≤ s → s ≤ 1 → fX6_waysFrom_L5 (m + 1) (iN c) (iN w) (iN y) (iN s) I r = fX6_waysFrom_L5 m (iN c) (iN w) (iN (y + if V 2 (8 * (w + 1) + lead V c w s 1) = 1 then 0 else cnt V (V 0 1 - (w + 1)).toNat (lead V c w s 1) (w + 1))) (iN (s + 1)) I r := by
    intro s m y hs1 hs2
    have hl1 := lead_lo hw (c := c) (r := w) (s := s) (k := 1)
    have hl2 := lead_hi hw (c := c) (r := w) (s := s) (k := 1)
    have ht1 := ht (w + 1) (lead V c w s 1) (by omega) (by omega) hl1 hl2
    rw [fX6_waysFrom_L5]
    simp (disch := omega) only [iN_lit, iN_add, iN_sub, iN_mul, iN_neg, iN_lt, iN_eq, iN_tn, if_true, if_false, if_pos, if_neg, fX6_cell, iN_pick, ht1, cl_lead hw hV h1 h2 h3 (by omega) (s := s) (k := 1) ⟨hs1, hs2⟩ (by omega), cl_hiss hw hV h1 h2 h3 h4 (s := s) (k := 1) ⟨hs1, hs2⟩ (by omega)]
    by_cases hi : V 2 (8 * (w + 1) + lead V c w s 1) = 1
    · simp only [if_pos hi, Int.add_zero]
      rw [if_neg (by decide)]
    · simp only [if_neg hi, if_true]
  rw [fX6_waysFrom]
  simp only [iN_lit, iN_neg]
  rw [key (-1) _ _ (by omega) (by omega), key (-1 + 1) _ _ (by omega) (by omega), key (-1 + 1 + 1) _ _ (by omega) (by omega), fX6_waysFrom_L5]
  simp (disch := omega) only [iN_lit, iN_add, iN_sub, iN_mul, iN_neg, iN_lt, iN_eq, iN_tn, if_true, if_false, if_pos, if_neg, Option.bind_some]
  rw [show (V 0 1 - w).toNat = (V 0 1 - (w + 1)).toNat + 1 by omega, cnt, Int.zero_add, Int.add_assoc]
  rfl
theorem put_t {u c : Int} {x : Int32} (h0 : 0 ≤ c ∧ c < 8) (h1 : 0 ≤ u ∧ u ≤ 6) : mf_put I 38 56 (fX6_cell (iN c) (iN u)) x = mm_up I 38 (u * 8 + c).toNat x := by
  rw [fX6_cell]
  simp (disch := omega) only [iN_lit, iN_add, iN_sub, iN_mul, iN_neg, iN_lt, iN_eq, iN_tn, if_true, if_false, if_pos, if_neg, iN_put]
theorem cl_rows_a (hr0 : r = 3 ∨ r = 19) (h : cOK V S r I) {b : Int} (hb1 : 0 ≤ b) (hb2 : b < V 0 2) {n : Nat} (hn : 30 ≤ n) : ∃ I', fX6_countRows_L10 n (iN b) (iN 0) I r = some I' ∧ ex [38] I I' ∧ tbl V (cnt V) (V 0 1) I' := by
  have hu := h.1.1
  obtain ⟨n', I', h1, h2, h3, h4⟩ := loop (fun n k I => fX6_countRows_L10 n (iN b) (iN k) I r) 2 (P := V 0 0) (fun k I1 => ex [38] I I1 ∧ ∀ c : Int, 0 ≤ c → c < k → I1 38 (V 0 1 * 8 + c).toNat = iN 1)
    (by
      intro n k I1 hn h0 h1 ⟨hx, hz⟩
      have hv := (cOK_ex h hx (by rcases hr0 with rfl | rfl <;> decide)).2.2.1.1
      refine ⟨mm_up I1 38 (V 0 1 * 8 + k).toNat (iN 1), ?_, ex_trans hx (ex_up (by decide)), ?_⟩
      · show fX6_countRows_L10 (n + 1) _ _ _ _ = _
        rw [fX6_countRows_L10]
        simp (disch := omega) only [iN_lit, iN_add, iN_sub, iN_mul, iN_neg, iN_lt, iN_eq, iN_tn, if_true, if_false, if_pos, if_neg, hv.1, hv.2.1, put_t]
      · intro c c0 c1
        rw [up_c]
        by_cases e : c = k
        · rw [if_pos (by omega)]
        · rw [if_neg (by omega)]; exact hz c c0 (by omega)) (V 0 0).toNat n 0 I (by omega) (by omega) ⟨ex_refl, by intro z h1 h2; omega⟩ (by omega)
  refine ⟨I', ?_, h3, ?_⟩
  · have hv := (cOK_ex h h3 (by rcases hr0 with rfl | rfl <;> decide)).2.2.1.1
    rw [h2]
    obtain ⟨n', rfl⟩ : ∃ m, n' = m + 1 := ⟨n' - 1, by omega⟩
    show fX6_countRows_L10 (n' + 1) _ _ _ _ = _
    rw [fX6_countRows_L10]
    simp (disch := omega) only [iN_lit, iN_add, iN_sub, iN_mul, iN_neg, iN_lt, iN_eq, iN_tn, if_true, if_false, if_pos, if_neg, hv.1]
  · intro u c u1 u2 c1 c2
    have e : u = V 0 1 := by omega
    subst e
    rw [h4 c c1 c2, Int.sub_self]
    rfl
theorem cl_rows_b (hr0 : r = 3 ∨ r = 19) (h : cOK V S r I) {b w : Int} (hw0 : 0 ≤ w) (hw1 : w + 1 ≤ V 0 1) (ht : tbl V (cnt V) (w + 1) I) {n : Nat} (hn : 30 ≤ n) : ∃ I', fX6_countRows_L62 n (iN b) (iN w) (iN 0) I r = some I' ∧ ex [38] I I' ∧ tbl V (cnt V) w I' := by
  have hu := h.1.1
  obtain ⟨n', I', h1, h2, h3, h4, h5⟩ := loop (fun n k I => fX6_countRows_L62 n (iN b) (iN w) (iN k) I r) 5 (P := V 0 0) (fun k I1 => ex [38] I I1 ∧ tbl V (cnt V) (w + 1) I1 ∧ ∀ c : Int, 0 ≤ c → c < k → I1 38 (w * 8 + c).toNat = iN (cnt V (V 0 1 - w).toNat c w))
    (by
      intro n k I1 hn h0 h1 ⟨hx, htt, hz⟩
      have hc := cOK_ex h hx (by rcases hr0 with rfl | rfl <;> decide)
      have hv := hc.2.2.1.1
      refine ⟨mm_up I1 38 (w * 8 + k).toNat (iN (cnt V (V 0 1 - w).toNat k w)), ?_, ex_trans hx (ex_up (by decide)), ?_, ?_⟩
      · show fX6_countRows_L62 (n + 1) _ _ _ _ _ = _
        rw [fX6_countRows_L62, cl_ways h.1 hc.2.2.1 h0 h1 hw0 hw1 htt (by omega), Option.bind_some]
        simp (disch := omega) only [iN_lit, iN_add, iN_sub, iN_mul, iN_neg, iN_lt, iN_eq, iN_tn, if_true, if_false, if_pos, if_neg, hv.1, put_t]
      · intro u c u1 u2 c1 c2
        rw [up_c, if_neg (by omega)]
        exact htt u c u1 u2 c1 c2
      · intro c c0 c1
        rw [up_c]
        by_cases e : c = k
        · rw [if_pos (by omega), e]
        · rw [if_neg (by omega)]; exact hz c c0 (by omega)) (V 0 0).toNat n 0 I (by omega) (by omega) ⟨ex_refl, ht, by intro z h1 h2; omega⟩ (by omega)
  refine ⟨I', ?_, h3, ?_⟩
  · have hv := (cOK_ex h h3 (by rcases hr0 with rfl | rfl <;> decide)).2.2.1.1
    rw [h2]
    obtain ⟨n', rfl⟩ : ∃ m, n' = m + 1 := ⟨n' - 1, by omega⟩
    show fX6_countRows_L62 (n' + 1) _ _ _ _ _ = _
    rw [fX6_countRows_L62]
    simp (disch := omega) only [iN_lit, iN_add, iN_sub, iN_mul, iN_neg, iN_lt, iN_eq, iN_tn, if_true, if_false, if_pos, if_neg, hv.1]
  · intro u c u1 u2 c1 c2
    by_cases e : u = w
    · subst e; exact h5 c c1 c2
    · exact h4 u c (by omega) u2 c1 c2
theorem cl_rows_c (hr0 : r = 3 ∨ r = 19) {b : Int} (hb1 : 0 ≤ b) (hb2 : b < V 0 2) (k : Nat) : ∀ (n : Nat) (w : Int) (I : (Nat → Nat → Int32)), cOK V S r I → w + 1 = S (4 + b) + k → w + 1 ≤ V 0 1 → tbl V (cnt V) (w + 1) I → 40 + k ≤ n → ∃ I', fX6_countRows_L47 n (iN b) (iN w) I r = some I' ∧ ex [38] I I' ∧ tbl V (cnt V) (S (4 + b)) I' := by
  induction k with
  | zero =>
    intro n w I h h1 h2 ht hn
    have hu := h.1.1
    have hs := h.2.1.1 b hb1 hb2
    obtain ⟨n, rfl⟩ : ∃ m, n = m + 1 := ⟨n - 1, by omega⟩
    refine ⟨I, ?_, ex_refl, by rw [show w + 1 = S (4 + b) by omega] at ht; exact ht⟩
    rw [fX6_countRows_L47, cl_row h.1 h.2.2.2 hb1 hb2]
    simp (disch := omega) only [iN_lit, iN_add, iN_sub, iN_mul, iN_neg, iN_lt, iN_eq, iN_tn, if_true, if_false, if_pos, if_neg]
  | succ k ih =>
    intro n w I h h1 h2 ht hn
    have hu := h.1.1
    have hs := h.2.1.1 b hb1 hb2
    obtain ⟨n, rfl⟩ : ∃ m, n = m + 1 := ⟨n - 1, by omega⟩
    obtain ⟨I1, g1, g2, g3⟩ := cl_rows_b hr0 h (b := b) (w := w) (by omega) h2 ht (n := n) (by omega)
    obtain ⟨I2, f1, f2, f3⟩ := ih n (w - 1) I1 (cOK_ex h g2 (by rcases hr0 with rfl | rfl <;> decide)) (by omega) (by omega) (by rw [show w - 1 + 1 = w by omega]; exact g3) (by omega)
    refine ⟨I2, ?_, ex_trans g2 f2, f3⟩
    rw [fX6_countRows_L47, cl_row h.1 h.2.2.2 hb1 hb2]
    simp (disch := omega) only [iN_lit, iN_add, iN_sub, iN_mul, iN_neg, iN_lt, iN_eq, iN_tn, if_true, if_false, if_pos, if_neg]
    rw [g1, Option.bind_some, show w + -1 = w - 1 by omega]
    exact f1
theorem cl_rows (hr0 : r = 3 ∨ r = 19) (h : cOK V S r I) {b : Int} (hb : -2147483648 ≤ b ∧ b < 2147483648) {n : Nat} (hn : 60 ≤ n) : ∃ I', fX11_rows n (iN b) I r = some (if 0 ≤ b ∧ b < V 0 2 then iN (cnt V (lft V S b) (S b) (S (4 + b))) else iN (-1), I') ∧ ex [38] I I' := by
  have hu := h.1.1
  rw [fX11_rows, cl_board h hb]
  by_cases hh : 0 ≤ b ∧ b < V 0 2
  · obtain ⟨hb1, hb2⟩ := hh
    have hs := h.2.1.1 b hb1 hb2
    obtain ⟨l6, l7⟩ := lft_le h.1 h.2.1 hb1 hb2
    simp only [if_pos (And.intro hb1 hb2), iN_lit]
    rw [if_neg (by decide), fX6_countRows]
    simp only [iN_lit]
    obtain ⟨I1, g1, g2, g3⟩ := cl_rows_a hr0 h hb1 hb2 (n := n) (by omega)
    have h1 := cOK_ex h g2 (by rcases hr0 with rfl | rfl <;> decide)
    obtain ⟨I2, f1, f2, f3⟩ := cl_rows_c hr0 hb1 hb2 (lft V S b) n (V 0 1 - 1) I1 h1 (by omega) (by omega) (by rw [show V 0 1 - 1 + 1 = V 0 1 by omega]; exact g3) (by omega)
    have h2 := cOK_ex h1 f2 (by rcases hr0 with rfl | rfl <;> decide)
    refine ⟨I2, ?_, ex_trans g2 f2⟩
    rw [g1, Option.bind_some, h1.2.2.1.1.2.1, iN_sub, f1, Option.bind_some, cl_col h.1 h2.2.2.2 hb1 hb2, cl_row h.1 h2.2.2.2 hb1 hb2, fX6_cell]
    have ht := f3 (S (4 + b)) (S b) (by omega) (by omega) (by omega) (by omega)
    simp (disch := omega) only [iN_lit, iN_add, iN_sub, iN_mul, iN_neg, iN_lt, iN_eq, iN_tn, if_true, if_false, if_pos, if_neg, iN_pick, ht, Option.bind_some]
    rfl
  · simp only [if_neg hh, iN_lit]
    exact ⟨I, by rw [if_pos trivial]; rfl, ex_refl⟩
end CLC
