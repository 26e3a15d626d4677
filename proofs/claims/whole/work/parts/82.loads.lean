/-! Loads at a place, their width; over, left, pulled, hottest, law, lies, singe of both. -/
theorem shl_0 {k : Int} (h1 : 0 ≤ k) (h2 : k < 32) : iN 0 <<< iN k = iN 0 := by
  have : ∀ j : Fin 32, iN 0 <<< iN (j.val : Int) = iN 0 := by decide
  have h := this ⟨k.toNat, by omega⟩
  have e : ((k.toNat : Nat) : Int) = k := by omega
  simp only [e] at h
  exact h
def lds (S : Int → Int) (w : Int) (n : Nat) : Int32 := match n with
  | 0 => iN 0
  | n + 1 => lds S w n ||| (if S (20 + n) = w then iN 1 <<< iN n else iN 0)
def wid (V : (Nat → Int → Int)) (X : Int32) (n : Nat) : Int := match n with
  | 0 => 0
  | n + 1 => wid V X n + (if bit X n = true then V 6 n else 0)
theorem wid_in {V : (Nat → Int → Int)} (hw : wfV V) (X : Int32) (n : Nat) (hn : n ≤ V 0 3) : 0 ≤ wid V X n ∧ wid V X n ≤ 99 * n := by
  induction n with
  | zero => rw [wid]; omega
  | succ n ih =>
    have := ih (by omega)
    have := hw.2.2.2.2.1 n (by omega) (by omega)
    rw [wid]
    split <;> omega
theorem bit_lds (S : Int → Int) (w : Int) (n : Nat) (hn : n ≤ 7) {l : Int} (h1 : 0 ≤ l) (h2 : l < 32) : bit (lds S w n) l = decide (l < n ∧ S (20 + l) = w) := by
  induction n with
  | zero => rw [lds, bit_0, eq_comm, decide_eq_false_iff_not]; omega
  | succ n ih =>
    rw [lds, bit_or, ih (by omega)]
    by_cases e : S (20 + n) = w
    · rw [if_pos e, bit_shl1 (by omega) (by omega) h1 h2, ← Bool.decide_or]
      congr 1
      apply propext
      constructor
      · rintro (⟨h, h'⟩ | h)
        · exact ⟨by omega, h'⟩
        · subst h; exact ⟨by omega, e⟩
      · rintro ⟨h, h'⟩
        by_cases e2 : l = n
        · right; exact e2
        · left; exact ⟨by omega, h'⟩
    · rw [if_neg e, bit_0, Bool.or_false]
      congr 1
      apply propext
      constructor
      · rintro ⟨h, h'⟩; exact ⟨by omega, h'⟩
      · rintro ⟨h, h'⟩
        by_cases e2 : l = n
        · subst e2; exact absurd h' e
        · exact ⟨by omega, h'⟩
section LDR
variable {V : (Nat → Int → Int)} {S A : Int → Int} {r : Nat} {I : (Nat → Nat → Int32)}
theorem rf_loads (hw : wfV V) (hV : refV V I) (ha : hr I 85 28 A) (hp : ∀ l, 0 ≤ l → l < V 0 3 → -2 ≤ A (20 + l) ∧ A (20 + l) < 4) {w : Int} (hw' : -2147483648 ≤ w ∧ w < 2147483648) {n : Nat} (hn : 12 ≤ n) : fX12_loadsAt n (iN w) I = some (lds A w (V 0 3).toNat) := by
  have hu := hw.1
  obtain ⟨n', s, h1, h2, h3⟩ := loop (fun n k s => fX12_loadsAt_L4 n (iN w) s (iN k) I) 1 (P := V 0 3) (fun k s => s = lds A w k.toNat)
    (by
      intro n k s hn h0 h1 hs
      refine ⟨_, ?_, rfl⟩
      show fX12_loadsAt_L4 (n + 1) _ _ _ _ = _
      have hpk := hp k h0 h1
      rw [fX12_loadsAt_L4, hs, show (k + 1).toNat = k.toNat + 1 by omega, lds, show ((k.toNat : Nat) : Int) = k by omega]
      simp (disch := omega) only [iN_lit, iN_add, iN_sub, iN_mul, iN_neg, iN_lt, iN_eq, iN_tn, if_true, if_false, if_pos, if_neg, hV.1.2.2.2.1, ha, iN_31, show fX12_truth (iN 1) = iN 1 from rfl, show fX12_truth (iN 0) = iN 0 from rfl, shl_0]
      by_cases e : A (20 + k) = w
      · rw [if_pos e, if_pos e]
      · rw [if_neg e, if_neg e]) (V 0 3).toNat n 0 (iN 0) (by omega) (by omega) rfl (by omega)
  rw [fX12_loadsAt]
  simp only [iN_lit]
  have h2' : fX12_loadsAt_L4 n (iN w) (iN 0) (iN 0) I = fX12_loadsAt_L4 n' (iN w) s (iN (V 0 3)) I := h2
  rw [h2']
  obtain ⟨n', rfl⟩ : ∃ m, n' = m + 1 := ⟨n' - 1, by omega⟩
  rw [fX12_loadsAt_L4]
  simp (disch := omega) only [iN_lit, iN_add, iN_sub, iN_mul, iN_neg, iN_lt, iN_eq, iN_tn, if_true, if_false, if_pos, if_neg, hV.1.2.2.2.1, Option.bind_some]
  rw [h3]
theorem cl_loads (h : cOK V S r I) {w : Int} (hw' : -2147483648 ≤ w ∧ w < 2147483648) {n : Nat} (hn : 12 ≤ n) : fX7_loadsAt n (iN w) I r = some (lds S w (V 0 3).toNat) := by
  have hu := h.1.1
  obtain ⟨n', s, h1, h2, h3⟩ := loop (fun n k s => fX7_loadsAt_L4 n (iN w) s (iN k) I r) 1 (P := V 0 3) (fun k s => s = lds S w k.toNat)
    (by
      intro n k s hn h0 h1 hs
      refine ⟨_, ?_, rfl⟩
      show fX7_loadsAt_L4 (n + 1) _ _ _ _ _ = _
      have hpk := h.2.1.2.1 k h0 h1
      rw [fX7_loadsAt_L4, hs, show (k + 1).toNat = k.toNat + 1 by omega, lds, show ((k.toNat : Nat) : Int) = k by omega, cl_place h.1 h.2.2.2 h0 h1]
      simp (disch := omega) only [iN_lit, iN_add, iN_sub, iN_mul, iN_neg, iN_lt, iN_eq, iN_tn, if_true, if_false, if_pos, if_neg, h.2.2.1.1.2.2.2.1, iN_31]
      by_cases e : S (20 + k) = w
      · rw [if_pos e, if_pos e]
      · rw [if_neg e, if_neg e, or_0]) (V 0 3).toNat n 0 (iN 0) (by omega) (by omega) rfl (by omega)
  rw [fX7_loadsAt]
  simp only [iN_lit]
  have h2' : fX7_loadsAt_L4 n (iN w) (iN 0) (iN 0) I r = fX7_loadsAt_L4 n' (iN w) s (iN (V 0 3)) I r := h2
  rw [h2']
  obtain ⟨n', rfl⟩ : ∃ m, n' = m + 1 := ⟨n' - 1, by omega⟩
  rw [fX7_loadsAt_L4]
  simp (disch := omega) only [iN_lit, iN_add, iN_sub, iN_mul, iN_neg, iN_lt, iN_eq, iN_tn, if_true, if_false, if_pos, if_neg, h.2.2.1.1.2.2.2.1, Option.bind_some]
  rw [h3]
theorem rf_wide (hw : wfV V) (hV : refV V I) (X : Int32) {n : Nat} (hn : 12 ≤ n) : fX12_wideOf n X I = some (iN (wid V X (V 0 3).toNat)) := by
  have hu := hw.1
  have hv := hV.1.2.2.2.1
  have h83 := hV.2.2.2.2.2.2.1
  obtain ⟨n', s, h1, h2, h3⟩ := loop (fun n k s => fX12_wideOf_L4 n X (iN s) (iN k) I) 1 (P := V 0 3) (fun k s => s = wid V X k.toNat)
    (by
      intro n k s hn h0 h1 hs
      refine ⟨_, ?_, rfl⟩
      show fX12_wideOf_L4 (n + 1) _ _ _ _ = _
      rw [fX12_wideOf_L4, hs, show (k + 1).toNat = k.toNat + 1 by omega, wid, show ((k.toNat : Nat) : Int) = k by omega]
      simp (disch := omega) only [iN_lit, iN_add, iN_sub, iN_mul, iN_neg, iN_lt, iN_eq, iN_tn, if_true, if_false, if_pos, if_neg, hv, h83, iN_31, bit_t1]
      by_cases e : bit X k = true
      · rw [if_pos e, if_pos e]
      · rw [if_neg e, if_neg e]) (V 0 3).toNat n 0 0 (by omega) (by omega) rfl (by omega)
  rw [fX12_wideOf]
  simp only [iN_lit]
  have h2' : fX12_wideOf_L4 n X (iN 0) (iN 0) I = fX12_wideOf_L4 n' X (iN s) (iN (V 0 3)) I := h2
  rw [h2']
  obtain ⟨n', rfl⟩ : ∃ m, n' = m + 1 := ⟨n' - 1, by omega⟩
  rw [fX12_wideOf_L4]
  simp (disch := omega) only [iN_lit, iN_add, iN_sub, iN_mul, iN_neg, iN_lt, iN_eq, iN_tn, if_true, if_false, if_pos, if_neg, hv, Option.bind_some]
  rw [h3]
theorem cl_wide (h : cOK V S r I) (X : Int32) {n : Nat} (hn : 12 ≤ n) : fX9_widthOf n X I r = some (iN (wid V X (V 0 3).toNat)) := by
  have hu := h.1.1
  have hv := h.2.2.1.1.2.2.2.1
  have h11 := h.2.2.1.2.2.2.2.2.2.1
  obtain ⟨n', s, h1, h2, h3⟩ := loop (fun n k s => fX9_widthOf_L4 n X (iN s) (iN k) I r) 1 (P := V 0 3) (fun k s => s = wid V X k.toNat)
    (by
      intro n k s hn h0 h1 hs
      refine ⟨_, ?_, rfl⟩
      show fX9_widthOf_L4 (n + 1) _ _ _ _ _ = _
      rw [fX9_widthOf_L4, hs, show (k + 1).toNat = k.toNat + 1 by omega, wid, show ((k.toNat : Nat) : Int) = k by omega, fX5_loadWide]
      simp (disch := omega) only [iN_lit, iN_add, iN_sub, iN_mul, iN_neg, iN_lt, iN_eq, iN_tn, if_true, if_false, if_pos, if_neg, hv, h11, iN_pick, iN_31, bit_t0]
      by_cases e : bit X k = true
      · rw [if_pos e, e, ite_n (by decide)]
      · rw [if_neg e, ite_p (by simpa using e), Int.add_zero]) (V 0 3).toNat n 0 0 (by omega) (by omega) rfl (by omega)
  rw [fX9_widthOf]
  simp only [iN_lit]
  have h2' : fX9_widthOf_L4 n X (iN 0) (iN 0) I r = fX9_widthOf_L4 n' X (iN s) (iN (V 0 3)) I r := h2
  rw [h2']
  obtain ⟨n', rfl⟩ : ∃ m, n' = m + 1 := ⟨n' - 1, by omega⟩
  rw [fX9_widthOf_L4]
  simp (disch := omega) only [iN_lit, iN_add, iN_sub, iN_mul, iN_neg, iN_lt, iN_eq, iN_tn, if_true, if_false, if_pos, if_neg, hv, Option.bind_some]
  rw [h3]
theorem wfS_pl (h : wfS V 600 S) (hw : wfV V) : ∀ l, 0 ≤ l → l < V 0 3 → -2 ≤ S (20 + l) ∧ S (20 + l) < 4 := fun l h1 h2 => by have := h.2.1 l h1 h2; have := hw.1; omega
/-- filled: the air holds the scene -/
theorem rf_filled (h : rOK V S I) {n : Nat} (hn : 30 ≤ n) : ∃ I', fX12_fill n I = some I' ∧ ex [85] I I' ∧ rOK V S I' ∧ hr I' 85 28 S := by
  obtain ⟨I', g1, g2, g3⟩ := rf_fill I hn
  exact ⟨I', g1, g2, rOK_ex h g2 (by decide), fun z h1 h2 => by rw [g3 z h1 h2]; exact h.2.2.2 z h1 h2⟩
theorem rf_Over (h : rOK V S I) {n : Nat} (hn : 40 ≤ n) : ∃ I', fX12_over n I = some (lds S (-2) (V 0 3).toNat, I') ∧ ex [85] I I' := by
  obtain ⟨I', g1, g2, g3, g4⟩ := rf_filled h (n := n) (by omega)
  refine ⟨I', ?_, g2⟩
  rw [fX12_over, g1, Option.bind_some]
  simp only [iN_lit, iN_neg]
  rw [rf_loads h.1 g3.2.2.1 g4 (wfS_pl h.2.1 h.1) (by omega) (by omega)]
  rfl
theorem cl_Over (h : cOK V S r I) {n : Nat} (hn : 40 ≤ n) : fX11_over n I r = some (lds S (-2) (V 0 3).toNat) := by
  rw [fX11_over]
  simp only [iN_lit, iN_neg]
  rw [cl_loads h (by omega) (by omega)]
  rfl
def aLe (V : (Nat → Int → Int)) (S : Int → Int) : Int := wid V (((iN 1 <<< iN (V 0 3)) - iN 1) &&& (lds S (-2) (V 0 3).toNat ^^^ iN (-1))) (V 0 3).toNat
theorem rf_Left (h : rOK V S I) {n : Nat} (hn : 40 ≤ n) : ∃ I', fX12_left n I = some (iN (aLe V S), I') ∧ ex [85] I I' := by
  have hu := h.1.1
  obtain ⟨I', g1, g2, g3, g4⟩ := rf_filled h (n := n) (by omega)
  refine ⟨I', ?_, g2⟩
  rw [fX12_left, g1, Option.bind_some]
  simp only [iN_lit, iN_neg]
  rw [rf_loads h.1 g3.2.2.1 g4 (wfS_pl h.2.1 h.1) (by omega) (by omega), Option.bind_some, g3.2.2.1.1.2.2.2.1, iN_31 (by omega) (by omega), rf_wide h.1 g3.2.2.1 _ (by omega)]
  rfl
theorem cl_Left (h : cOK V S r I) {n : Nat} (hn : 40 ≤ n) : fX11_left n I r = some (iN (aLe V S)) := by
  have hu := h.1.1
  rw [fX11_left, fX7_allLoads]
  simp only [iN_lit, iN_neg]
  rw [cl_loads h (by omega) (by omega), Option.bind_some, h.2.2.1.1.2.2.2.1, iN_31 (by omega) (by omega), cl_wide h _ (by omega)]
  rfl
def pul (V : (Nat → Int → Int)) (S : Int → Int) (n : Nat) : Int32 := match n with
  | 0 => iN 0
  | n + 1 => pul V S n ||| (if 0 < V 1 (8 * S (4 + n) + S n) then iN 1 <<< iN n else iN 0)
theorem rf_Pull (h : rOK V S I) {n : Nat} (hn : 40 ≤ n) : fX12_pulled n I = some (pul V S (V 0 2).toNat) := by
  have hu := h.1.1
  have hv := h.2.2.1.1.2.2.1
  have h84 := h.2.2.2
  have h78 := h.2.2.1.2.1
  obtain ⟨n', s, h1, h2, h3⟩ := loop (fun n k s => fX12_pulled_L4 n s (iN k) I) 1 (P := V 0 2) (fun k s => s = pul V S k.toNat)
    (by
      intro n k s hn h0 h1 hs
      refine ⟨_, ?_, rfl⟩
      show fX12_pulled_L4 (n + 1) _ _ _ = _
      have hsk := h.2.1.1 k h0 h1
      have hc := h.1.2.1 (8 * S (4 + k) + S k) (by omega) (by omega)
      rw [fX12_pulled_L4, hs, show (k + 1).toNat = k.toNat + 1 by omega, pul, show ((k.toNat : Nat) : Int) = k by omega]
      simp (disch := omega) only [iN_lit, iN_add, iN_sub, iN_mul, iN_neg, iN_lt, iN_eq, iN_tn, if_true, if_false, if_pos, if_neg, hv, h84, fX12_currentAt, h78, iN_31, Option.bind_some, show fX12_truth (iN 1) = iN 1 from rfl, show fX12_truth (iN 0) = iN 0 from rfl, shl_0]
      by_cases e : 0 < V 1 (8 * S (4 + k) + S k)
      · rw [if_pos e, if_pos e]
      · rw [if_neg e, if_neg e]) (V 0 2).toNat n 0 (iN 0) (by omega) (by omega) rfl (by omega)
  rw [fX12_pulled]
  simp only [iN_lit]
  have h2' : fX12_pulled_L4 n (iN 0) (iN 0) I = fX12_pulled_L4 n' s (iN (V 0 2)) I := h2
  rw [h2']
  obtain ⟨n', rfl⟩ : ∃ m, n' = m + 1 := ⟨n' - 1, by omega⟩
  rw [fX12_pulled_L4]
  simp (disch := omega) only [iN_lit, iN_add, iN_sub, iN_mul, iN_neg, iN_lt, iN_eq, iN_tn, if_true, if_false, if_pos, if_neg, hv, Option.bind_some]
  rw [h3]
theorem cl_cur (hw : wfV V) (hV : clsV V r I) {c w : Int} (h1 : 0 ≤ c) (h2 : c < V 0 0) (h3 : 0 ≤ w) (h4 : w ≤ V 0 1) : fX5_currentAt (iN c) (iN w) r I = iN (V 1 (8 * w + c)) := by
  rw [fX5_currentAt, cl_in hw hV h1 h2 h3 h4]
  simp only [iN_lit]
  rw [ite_n n10, cl_curr hw hV h1 h2 h3 h4]
theorem cl_Pull (h : cOK V S r I) {n : Nat} (hn : 40 ≤ n) : fX11_pulled n I r = some (pul V S (V 0 2).toNat) := by
  have hu := h.1.1
  have hv := h.2.2.1.1.2.2.1
  obtain ⟨n', s, h1, h2, h3⟩ := loop (fun n k s => fX11_pulled_L4 n s (iN k) I r) 1 (P := V 0 2) (fun k s => s = pul V S k.toNat)
    (by
      intro n k s hn h0 h1 hs
      refine ⟨_, ?_, rfl⟩
      show fX11_pulled_L4 (n + 1) _ _ _ _ = _
      have hsk := h.2.1.1 k h0 h1
      have hc := h.1.2.1 (8 * S (4 + k) + S k) (by omega) (by omega)
      rw [fX11_pulled_L4, hs, show (k + 1).toNat = k.toNat + 1 by omega, pul, show ((k.toNat : Nat) : Int) = k by omega, cl_col h.1 h.2.2.2 h0 h1, cl_row h.1 h.2.2.2 h0 h1, cl_cur h.1 h.2.2.1 (by omega) (by omega) (by omega) (by omega)]
      simp (disch := omega) only [iN_lit, iN_add, iN_sub, iN_mul, iN_neg, iN_lt, iN_eq, iN_tn, if_true, if_false, if_pos, if_neg, hv, iN_31]
      by_cases e : 0 < V 1 (8 * S (4 + k) + S k)
      · rw [if_pos e, if_pos e]
      · rw [if_neg e, if_neg e, or_0]) (V 0 2).toNat n 0 (iN 0) (by omega) (by omega) rfl (by omega)
  rw [fX11_pulled]
  simp only [iN_lit]
  have h2' : fX11_pulled_L4 n (iN 0) (iN 0) I r = fX11_pulled_L4 n' s (iN (V 0 2)) I r := h2
  rw [h2']
  obtain ⟨n', rfl⟩ : ∃ m, n' = m + 1 := ⟨n' - 1, by omega⟩
  rw [fX11_pulled_L4]
  simp (disch := omega) only [iN_lit, iN_add, iN_sub, iN_mul, iN_neg, iN_lt, iN_eq, iN_tn, if_true, if_false, if_pos, if_neg, hv, Option.bind_some]
  rw [h3]
def hott (V : (Nat → Int → Int)) (S : Int → Int) (n : Nat) : Int := match n with
  | 0 => -1
  | n + 1 => if hott V S n < 0 ∨ V 5 n - S (8 + n) < V 5 (hott V S n) - S (8 + hott V S n) then n else hott V S n
theorem hott_in (V : (Nat → Int → Int)) (S : Int → Int) (n : Nat) : -1 ≤ hott V S n ∧ hott V S n < n := by
  induction n with
  | zero => rw [hott]; omega
  | succ n ih => rw [hott]; split <;> omega
theorem rf_Hot (h : rOK V S I) {n : Nat} (hn : 40 ≤ n) : fX12_hottest n I = some (iN (hott V S (V 0 2).toNat)) := by
  have hu := h.1.1
  have hv := h.2.2.1.1.2.2.1
  have h84 := h.2.2.2
  have h82 := h.2.2.1.2.2.2.2.2.1
  obtain ⟨n', s, h1, h2, h3⟩ := loop (fun n k s => fX12_hottest_L4 n (iN s) (iN k) I) 1 (P := V 0 2) (fun k s => s = hott V S k.toNat)
    (by
      intro n k s hn h0 h1 hs
      refine ⟨_, ?_, rfl⟩
      show fX12_hottest_L4 (n + 1) _ _ _ = _
      have hi := hott_in V S k.toNat
      rw [← hs] at hi
      have hsk := h.2.1.1 k h0 h1
      have hbk := h.1.2.2.2.1 k h0 h1
      rw [fX12_hottest_L4, show (k + 1).toNat = k.toNat + 1 by omega, hott, ← hs, show ((k.toNat : Nat) : Int) = k by omega]
      by_cases e : s < 0
      · simp (disch := omega) only [iN_lit, iN_add, iN_sub, iN_mul, iN_neg, iN_lt, iN_eq, iN_tn, if_true, if_false, if_pos, if_neg, hv]
      · have hss := h.2.1.1 s (by omega) (by omega)
        have hbs := h.1.2.2.2.1 s (by omega) (by omega)
        simp (disch := omega) only [iN_lit, iN_add, iN_sub, iN_mul, iN_neg, iN_lt, iN_eq, iN_tn, if_true, if_false, if_pos, if_neg, hv, h84, h82]
        by_cases e2 : V 5 k - S (8 + k) < V 5 s - S (8 + s)
        · rw [if_pos e2, if_pos (Or.inr e2)]
        · rw [if_neg e2, if_neg (by omega)]) (V 0 2).toNat n 0 (-1) (by omega) (by omega) rfl (by omega)
  rw [fX12_hottest]
  simp only [iN_lit, iN_neg]
  have h2' : fX12_hottest_L4 n (iN (-1)) (iN 0) I = fX12_hottest_L4 n' (iN s) (iN (V 0 2)) I := h2
  rw [h2']
  obtain ⟨n', rfl⟩ : ∃ m, n' = m + 1 := ⟨n' - 1, by omega⟩
  rw [fX12_hottest_L4]
  simp (disch := omega) only [iN_lit, iN_add, iN_sub, iN_mul, iN_neg, iN_lt, iN_eq, iN_tn, if_true, if_false, if_pos, if_neg, hv, Option.bind_some]
  rw [h3]
theorem cl_bears (h : cOK V S r I) {b : Int} (hb1 : 0 ≤ b) (hb2 : b < V 0 2) : fX5_bearsOf (iN b) r I = iN (V 5 b) := by
  have hu := h.1.1
  have := h.2.2.1.2.2.2.2.2.1
  rw [fX5_bearsOf]
  simp (disch := omega) only [iN_pick, this]
theorem cl_wd (h : cOK V S r I) {b : Int} (hb1 : 0 ≤ b) (hb2 : b < V 0 2) : fX5_wideOf (iN b) r I = iN (V 3 b) := by
  have hu := h.1.1
  have := h.2.2.1.2.2.2.1
  rw [fX5_wideOf]
  simp (disch := omega) only [iN_pick, this]
theorem cl_lwd (h : cOK V S r I) {b : Int} (hb1 : 0 ≤ b) (hb2 : b < V 0 3) : fX5_loadWide (iN b) r I = iN (V 6 b) := by
  have hu := h.1.1
  have := h.2.2.1.2.2.2.2.2.2.1
  rw [fX5_loadWide]
  simp (disch := omega) only [iN_pick, this]
theorem cl_Hot (h : cOK V S r I) {n : Nat} (hn : 40 ≤ n) : fX11_hottest n I r = some (iN (hott V S (V 0 2).toNat)) := by
  have hu := h.1.1
  have hv := h.2.2.1.1.2.2.1
  obtain ⟨n', s, h1, h2, h3, h4⟩ := loop (fun n k (s : Int × Int) => fX11_hottest_L6 n (iN s.1) (iN s.2) (iN k) I r) 1 (P := V 0 2) (fun k s => s.1 = hott V S k.toNat ∧ (0 ≤ s.1 → s.2 = V 5 s.1 - S (8 + s.1)))
    (by
      intro n k s hn h0 h1 ⟨hs, hs2⟩
      have hi := hott_in V S k.toNat
      rw [← hs] at hi
      have hsk := h.2.1.1 k h0 h1
      have hbk := h.1.2.2.2.1 k h0 h1
      have unf := fX11_hottest_L6.eq_def (n + 1) (iN s.1) (iN s.2) (iN k) I r
      dsimp only at unf
      rw [cl_bears h h0 h1, cl_heat h.1 h.2.2.2 h0 h1] at unf
      rw [show (k + 1).toNat = k.toNat + 1 by omega, hott, ← hs, show ((k.toNat : Nat) : Int) = k by omega]
      by_cases e : s.1 < 0
      · have e1 : s.1 = -1 := by omega
        rw [e1] at unf
        simp (disch := omega) only [iN_lit, iN_add, iN_sub, iN_mul, iN_neg, iN_lt, iN_eq, iN_tn, if_true, if_false, if_pos, if_neg, hv] at unf
        rw [if_pos (Or.inl e)]
        exact ⟨(k, V 5 k - S (8 + k)), by rw [show iN s.1 = iN (-1) by rw [e1]]; exact unf, rfl, fun _ => rfl⟩
      · have hss := h.2.1.1 s.1 (by omega) (by omega)
        have hbs := h.1.2.2.2.1 s.1 (by omega) (by omega)
        have e3 := hs2 (by omega)
        simp (disch := omega) only [iN_lit, iN_add, iN_sub, iN_mul, iN_neg, iN_lt, iN_eq, iN_tn, if_true, if_false, if_pos, if_neg, hv] at unf
        by_cases e2 : V 5 k - S (8 + k) < V 5 s.1 - S (8 + s.1)
        · rw [if_pos (by omega)] at unf
          rw [if_pos (Or.inr e2)]
          exact ⟨(k, V 5 k - S (8 + k)), unf, rfl, fun _ => rfl⟩
        · rw [if_neg (by omega)] at unf
          rw [if_neg (by omega)]
          exact ⟨s, unf, rfl, hs2⟩) (V 0 2).toNat n 0 (-1, 0) (by omega) (by omega) ⟨rfl, by intro h; exact absurd h (by decide)⟩ (by omega)
  rw [fX11_hottest]
  simp only [iN_lit, iN_neg]
  have h2' : fX11_hottest_L6 n (iN (-1)) (iN 0) (iN 0) I r = fX11_hottest_L6 n' (iN s.1) (iN s.2) (iN (V 0 2)) I r := h2
  rw [h2']
  obtain ⟨n', rfl⟩ : ∃ m, n' = m + 1 := ⟨n' - 1, by omega⟩
  rw [fX11_hottest_L6]
  simp (disch := omega) only [iN_lit, iN_add, iN_sub, iN_mul, iN_neg, iN_lt, iN_eq, iN_tn, if_true, if_false, if_pos, if_neg, hv, Option.bind_some]
  rw [h3]
def lawn (V : (Nat → Int → Int)) (S : Int → Int) (w : Int) (n : Nat) : Int := match n with
  | 0 => 0
  | n + 1 => lawn V S w n + (if S (20 + n) = -1 ∧ V 6 n ≤ w then 1 else 0)
def aLaw (V : (Nat → Int → Int)) (S : Int → Int) (w : Int) : Int := if 0 ≤ w ∧ w ≤ 99 then lawn V S w (V 0 3).toNat else -1
theorem rf_Law (h : rOK V S I) {w : Int} (hw : -2147483648 ≤ w ∧ w < 2147483648) {n : Nat} (hn : 40 ≤ n) : ∃ I', fX12_law n (iN w) I = some (iN (aLaw V S w), I') ∧ ex [85] I I' := by
  have hu := h.1.1
  rw [fX12_law]
  simp only [iN_lit, iN_neg]
  rw [rf_in hw (by omega) (by omega)]
  unfold aLaw
  by_cases hw' : 0 ≤ w ∧ w ≤ 99
  · rw [if_pos hw', ite_n n10, if_pos hw', fX12_nearLoads]
    obtain ⟨I', g1, g2, g3, g4⟩ := rf_filled h (n := n) (by omega)
    rw [g1, Option.bind_some]
    simp only [iN_lit, iN_neg]
    rw [rf_loads h.1 g3.2.2.1 g4 (wfS_pl h.2.1 h.1) (by omega) (by omega), Option.bind_some, Option.bind_some]
    refine ⟨I', ?_, g2⟩
    have hv := g3.2.2.1.1.2.2.2.1
    have h83 := g3.2.2.1.2.2.2.2.2.2.1
    obtain ⟨n', s, h1, h2, h3⟩ := loop (fun n k s => fX12_law_L22 n (iN w) (lds S (-1) (V 0 3).toNat) (iN s) (iN k) I') 1 (P := V 0 3) (fun k s => s = lawn V S w k.toNat)
      (by
        intro n k s hn h0 h1 hs
        refine ⟨_, ?_, rfl⟩
        show fX12_law_L22 (n + 1) _ _ _ _ _ = _
        have hk := h.1.2.2.2.2.1 k h0 h1
        rw [fX12_law_L22, hs, show (k + 1).toNat = k.toNat + 1 by omega, lawn, show ((k.toNat : Nat) : Int) = k by omega]
        simp (disch := omega) only [iN_lit, iN_add, iN_sub, iN_mul, iN_neg, iN_lt, iN_eq, iN_tn, if_true, if_false, if_pos, if_neg, hv, h83, iN_31, bit_t1, show fX12_truth (iN 1) = iN 1 from rfl, show fX12_truth (iN 0) = iN 0 from rfl]
        rw [bit_lds S (-1) _ (by omega) h0 (by omega)]
        by_cases e : S (20 + k) = -1
        · rw [if_pos (by rw [decide_eq_true_iff]; exact ⟨by omega, e⟩)]
          by_cases e2 : w < V 6 k
          · rw [if_pos e2, if_neg (by omega)]
          · rw [if_neg e2, if_pos (by omega)]
        · rw [if_neg (by rw [decide_eq_true_iff]; exact fun hh => e hh.2), if_neg (fun hh => e hh.1)]) (V 0 3).toNat n 0 0 (by omega) (by omega) rfl (by omega)
    have h2' : fX12_law_L22 n (iN w) (lds S (-1) (V 0 3).toNat) (iN 0) (iN 0) I' = fX12_law_L22 n' (iN w) (lds S (-1) (V 0 3).toNat) (iN s) (iN (V 0 3)) I' := h2
    dsimp only
    rw [h2']
    obtain ⟨n', rfl⟩ : ∃ m, n' = m + 1 := ⟨n' - 1, by omega⟩
    rw [fX12_law_L22]
    simp (disch := omega) only [iN_lit, iN_add, iN_sub, iN_mul, iN_neg, iN_lt, iN_eq, iN_tn, if_true, if_false, if_pos, if_neg, hv, Option.bind_some]
    rw [h3]
  · rw [if_neg hw', ite_p rfl, if_neg hw']
    exact ⟨I, rfl, ex_refl⟩
theorem cl_Law (h : cOK V S r I) {w : Int} (hw : -2147483648 ≤ w ∧ w < 2147483648) {n : Nat} (hn : 40 ≤ n) : fX11_law n (iN w) I r = some (iN (aLaw V S w)) := by
  have hu := h.1.1
  have hv := h.2.2.1.1.2.2.2.1
  rw [fX11_law]
  simp (disch := omega) only [iN_lit, iN_neg, iN_lt]
  unfold aLaw
  by_cases w0 : w < 0
  · rw [if_pos w0, if_neg (by omega)]
  · rw [if_neg w0]
    by_cases w1 : 99 < w
    · rw [if_pos w1, if_neg (by omega)]
    · rw [if_neg w1, if_pos (by omega)]
      obtain ⟨n', s, h1, h2, h3⟩ := loop (fun n k s => fX11_law_L16 n (iN w) (iN s) (iN k) I r) 1 (P := V 0 3) (fun k s => s = lawn V S w k.toNat)
        (by
          intro n k s hn h0 h1 hs
          refine ⟨_, ?_, rfl⟩
          show fX11_law_L16 (n + 1) _ _ _ _ _ = _
          have hk := h.1.2.2.2.2.1 k h0 h1
          have hpk := h.2.1.2.1 k h0 h1
          rw [fX11_law_L16, hs, show (k + 1).toNat = k.toNat + 1 by omega, lawn, show ((k.toNat : Nat) : Int) = k by omega, cl_place h.1 h.2.2.2 h0 h1, cl_lwd h h0 h1]
          simp (disch := omega) only [iN_lit, iN_add, iN_sub, iN_mul, iN_neg, iN_lt, iN_eq, iN_tn, if_true, if_false, if_pos, if_neg, hv]
          by_cases e : S (20 + k) = -1
          · rw [if_pos e]
            by_cases e2 : w < V 6 k
            · rw [if_pos e2, if_neg (by omega), Int.add_zero]
            · rw [if_neg e2, if_pos (by omega)]
          · rw [if_neg e, if_neg (fun hh => e hh.1), Int.add_zero]) (V 0 3).toNat n 0 0 (by omega) (by omega) rfl (by omega)
      have h2' : fX11_law_L16 n (iN w) (iN 0) (iN 0) I r = fX11_law_L16 n' (iN w) (iN s) (iN (V 0 3)) I r := h2
      rw [h2']
      obtain ⟨n', rfl⟩ : ∃ m, n' = m + 1 := ⟨n' - 1, by omega⟩
      rw [fX11_law_L16]
      simp (disch := omega) only [iN_lit, iN_add, iN_sub, iN_mul, iN_neg, iN_lt, iN_eq, iN_tn, if_true, if_false, if_pos, if_neg, hv, Option.bind_some]
      rw [h3]
def aLies (l : List Int) (i : Int) : Int := if 0 ≤ i ∧ i < l.length then l.getD i.toNat 0 else -2
theorem rf_Lies {l : List Int} (hl : l.length ≤ 7) (h : rl l I) {i : Int} (hi : -2147483648 ≤ i ∧ i < 2147483648) : fX12_lies (iN i) I = some (iN (aLies l i)) := by
  rw [fX12_lies, h.1]
  simp only [iN_lit, iN_neg, iN_sub]
  rw [rf_in hi (by omega) (by omega)]
  unfold aLies
  by_cases e : 0 ≤ i ∧ i < l.length
  · rw [if_pos (show 0 ≤ i ∧ i ≤ (l.length : Int) - 1 by omega), ite_n n10, if_pos e]
    simp (disch := omega) only [iN_lit, iN_add, iN_sub, iN_mul, iN_neg, iN_lt, iN_eq, iN_tn, if_true, if_false, if_pos, if_neg]
    rw [h.2 i.toNat (by omega)]
  · rw [if_neg (show ¬ (0 ≤ i ∧ i ≤ (l.length : Int) - 1) by omega), ite_p rfl, if_neg e]
theorem cl_Lies {l : List Int} (hl : l.length ≤ 7) (h : cl l I) {i : Int} (hi : -2147483648 ≤ i ∧ i < 2147483648) : fX11_lies (iN i) I = iN (aLies l i) := by
  rw [fX11_lies, fX3_numberAt, h.1]
  simp (disch := omega) only [iN_lit, iN_neg, iN_lt]
  unfold aLies
  by_cases e : i < 0
  · rw [if_pos e, if_neg (by omega)]
  · rw [if_neg e]
    by_cases e2 : i < l.length
    · rw [if_pos e2, if_pos (by omega), iN_pick (by omega) (by omega) (by omega)]
      exact h.2 i.toNat (by omega)
    · rw [if_neg e2, if_neg (by omega)]
/-- the stroke at which it is scorched -/
def sng (V : (Nat → Int → Int)) (b B : Int) (n : Nat) (c r h m i : Int) : Int := match n with
  | 0 => -1
  | n + 1 => if V 2 (8 * (r + 1) + lead V c r 0 1) = 1 then -1 else if V 5 b < nht V b B c r h m then i else sng V b B n (lead V c r 0 1) (r + 1) (nht V b B c r h m) (m + 1) (i + 1)
def aSng (V : (Nat → Int → Int)) (S : Int → Int) (b : Int) : Int := if 0 ≤ b ∧ b < V 0 2 then sng V b (burd V S b) (lft V S b) (S b) (S (4 + b)) (S (8 + b)) (S (16 + b)) 1 else -1
theorem rf_singe_l {b : Int} (hb1 : 0 ≤ b) (hb2 : b < V 0 2) (k : Nat) : ∀ (n : Nat) (c w h' m i : Int) (I : (Nat → Nat → Int32)), rOK V S I → hr I 85 28 (air S b c w h' (S (12 + b)) m) → 310 + k ≤ n → (0 ≤ c ∧ c < V 0 0) → 0 ≤ w → w + k = V 0 1 → (0 ≤ h' ∧ h' ≤ 99) → (0 ≤ m ∧ m + k ≤ 1000) → (1 ≤ i ∧ i + k = lft V S b + 1) →
    ∃ y I', fX12_singe_L16 n (iN b) (iN i) I = some (y, I') ∧ (match y with | .inl va => va | .inr _ => iN (-1)) = iN (sng V b (burd V S b) k c w h' m i) ∧ ex [70, 71, 85] I I' := by
  induction k with
  | zero =>
    intro n c w h' m i I h ha hn hc hw1 hw2 hh hm hi
    obtain ⟨l6, l7⟩ := lft_le h.1 h.2.1 hb1 hb2
    obtain ⟨n, rfl⟩ : ∃ m, n = m + 1 := ⟨n - 1, by omega⟩
    refine ⟨.inr (), I, ?_, rfl, ex_refl⟩
    rw [fX12_singe_L16, rf_left2 h hb1 hb2, Option.bind_some]
    simp (disch := omega) only [iN_lit, iN_add, iN_sub, iN_mul, iN_neg, iN_lt, iN_eq, iN_tn, if_true, if_false, if_pos, if_neg]
  | succ k ih =>
    intro n c w h' m i I h ha hn hc hw1 hw2 hh hm hi
    have hu := h.1.1
    have hs := h.2.1.1 b hb1 hb2
    obtain ⟨l6, l7⟩ := lft_le h.1 h.2.1 hb1 hb2
    obtain ⟨n, rfl⟩ : ∃ m, n = m + 1 := ⟨n - 1, by omega⟩
    obtain ⟨I1, g1, g2, g3⟩ := rf_stroke h.1 h.2.2.1 (b := b) (c := c) (r := w) (h := h') (q := S (12 + b)) (m := m) (s := 0) (on := 1) (k := 1) (S := S) hb1 hb2 (wfS_pl h.2.1 h.1) hc (by omega) (by omega) hh (by omega) (by omega) (by omega) (by omega) (by omega) ha (n := n) (by omega)
    have hnn := nht_lo (V := V) (b := b) (B := burd V S b) (c := c) (r := w) (m := m) hh.1
    rw [fX12_singe_L16, rf_left2 h hb1 hb2, Option.bind_some, sng]
    simp only [iN_lit, iN_neg, iN_add]
    rw [ite_n (by rw [iN_lt (by omega) (by omega) (by omega) (by omega)]; omega), g1, Option.bind_some]
    dsimp only
    by_cases hi' : V 2 (8 * (w + 1) + lead V c w 0 1) = 1
    · simp only [if_pos hi']
      refine ⟨.inl (iN (-1)), I1, ?_, rfl, g2⟩
      rw [ite_p (by split <;> decide)]
    · simp only [if_neg hi'] at g3 ⊢
      by_cases hsc : V 5 b < nht V b (burd V S b) c w h' m
      · simp only [if_pos hsc]
        refine ⟨.inl (iN i), I1, ?_, rfl, g2⟩
        rw [ite_n (by decide), ite_p (by decide)]
      · simp only [if_neg hsc] at g3 ⊢
        rw [if_neg (fun hh => hsc hh.1)] at g3
        obtain ⟨y, I2, f1, f2, f3⟩ := ih n (lead V c w 0 1) (w + 1) (nht V b (burd V S b) c w h' m) (m + 1) (i + 1) I1 (rOK_ex h g2 (by decide)) g3 (by omega) ⟨lead_lo h.1, lead_hi h.1⟩ (by omega) (by omega) hnn (by omega) (by omega)
        refine ⟨y, I2, ?_, f2, ex_trans g2 f3⟩
        rw [ite_n (by decide), ite_n (by decide)]
        exact f1
theorem rf_Singe (h : rOK V S I) {b : Int} (hb : -2147483648 ≤ b ∧ b < 2147483648) {n : Nat} (hn : 340 ≤ n) : ∃ I', fX12_singe n (iN b) I = some (iN (aSng V S b), I') ∧ ex [70, 71, 85] I I' := by
  have hu := h.1.1
  rw [fX12_singe, rf_board h hb, Option.bind_some]
  unfold aSng
  simp only [iN_lit, iN_neg]
  by_cases hb' : 0 ≤ b ∧ b < V 0 2
  · rw [if_pos hb', ite_n n10, if_pos hb']
    have hs := h.2.1.1 b hb'.1 hb'.2
    obtain ⟨l6, l7⟩ := lft_le h.1 h.2.1 hb'.1 hb'.2
    obtain ⟨I1, g1, g2, g3, g4⟩ := rf_filled h (n := n) (by omega)
    obtain ⟨y, I2, f1, f2, f3⟩ := rf_singe_l hb'.1 hb'.2 (lft V S b) n (S b) (S (4 + b)) (S (8 + b)) (S (16 + b)) 1 I1 g3 (by rw [air_self]; exact g4) (by omega) (by omega) (by omega) l7 (by omega) (by omega) (by omega)
    rw [g1, Option.bind_some, f1, Option.bind_some]
    refine ⟨I2, ?_, ex_trans (ex_mono g2 (by decide)) f3⟩
    rw [← f2]
    cases y <;> rfl
  · rw [if_neg hb', ite_p rfl, if_neg hb']
    exact ⟨I, rfl, ex_refl⟩
theorem cl_singe_l (hr0 : r = 3 ∨ r = 19) {b : Int} (hb1 : 0 ≤ b) (hb2 : b < V 0 2) (k : Nat) : ∀ (n : Nat) (c h' j : Int) (I : (Nat → Nat → Int32)), cOK V S r I → 310 + k ≤ n → (0 ≤ c ∧ c < V 0 0) → (0 ≤ h' ∧ h' ≤ 99) → 0 ≤ j → S (4 + b) + j + k = V 0 1 →
    ∃ y I', fX8_strokesToScorch_L50 n (iN b) (iN (burd V S b)) (iN c) (iN (S (4 + b))) (iN h') (iN j) I r = some (y, I') ∧ (match y with | .inl va => va | .inr _ => iN (-1)) = iN (sng V b (burd V S b) k c (S (4 + b) + j) h' (S (16 + b) + j) (j + 1)) ∧ ex [r + 3, r + 4] I I' := by
  induction k with
  | zero =>
    intro n c h' j I h hn hc hh hj hk
    have hu := h.1.1
    have hs := h.2.1.1 b hb1 hb2
    obtain ⟨n, rfl⟩ : ∃ m, n = m + 1 := ⟨n - 1, by omega⟩
    refine ⟨.inr (), I, ?_, rfl, ex_refl⟩
    rw [fX8_strokesToScorch_L50]
    simp (disch := omega) only [iN_lit, iN_add, iN_sub, iN_mul, iN_neg, iN_lt, iN_eq, iN_tn, if_true, if_false, if_pos, if_neg, h.2.2.1.1.2.1]
  | succ k ih =>
    intro n c h' j I h hn hc hh hj hk
    have hu := h.1.1
    have hs := h.2.1.1 b hb1 hb2
    have hbe := h.1.2.2.2.1 b hb1 hb2
    obtain ⟨n, rfl⟩ : ∃ m, n = m + 1 := ⟨n - 1, by omega⟩
    obtain ⟨I1, w1, w2⟩ := cl_warm h.1 h.2.2.1 (b := b) (row := S (4 + b) + j) (col := c) (load := burd V S b) (made := S (16 + b) + j) (hot := h') hb1 hb2 (n := n) (by omega)
    have hwl := warm_lo (V := V) (row := S (4 + b) + j) (col := c) (load := burd V S b) (wide := V 3 b) (made := S (16 + b) + j) (hot := h')
    have hwh := warm_hi (V := V) (row := S (4 + b) + j) (col := c) (load := burd V S b) (wide := V 3 b) (made := S (16 + b) + j) (hot := h')
    have hnn := nht_lo (V := V) (b := b) (B := burd V S b) (c := c) (r := S (4 + b) + j) (m := S (16 + b) + j) hh.1
    have hc1 : cOK V S r I1 := cOK_ex h w2 (by rcases hr0 with rfl | rfl <;> decide)
    have hmin : fJ9_min (iN 99) (iN (h' + warm V (S (4 + b) + j) c (burd V S b) (V 3 b) (S (16 + b) + j) h')) = iN (nht V b (burd V S b) c (S (4 + b) + j) h' (S (16 + b) + j)) := by
      rw [cl_min _ _ (by omega) (by omega)]
      congr 1
      unfold nht
      split <;> split <;> omega
    rw [fX8_strokesToScorch_L50, sng, cl_made h.1 h.2.2.2 hb1 hb2]
    simp only [iN_lit, iN_neg, iN_add, h.2.2.1.1.2.1]
    rw [ite_p (by rw [iN_lt (by omega) (by omega) (by omega) (by omega)]; omega), cl_lead h.1 h.2.2.1 hc.1 hc.2 (by omega) (by omega) (by omega) (by omega), cl_hiss h.1 h.2.2.1 hc.1 hc.2 (by omega) (by omega) (by omega) (by omega)]
    by_cases hi' : V 2 (8 * (S (4 + b) + j + 1) + lead V c (S (4 + b) + j) 0 1) = 1
    · rw [if_pos hi', ite_n n10, if_pos hi']
      exact ⟨_, I, rfl, rfl, ex_refl⟩
    · rw [if_neg hi', ite_p rfl, if_neg hi', w1, Option.bind_some]
      dsimp only
      simp only [iN_add, hmin]
      rw [cl_bears hc1 hb1 hb2]
      by_cases hsc : V 5 b < nht V b (burd V S b) c (S (4 + b) + j) h' (S (16 + b) + j)
      · rw [ite_p (by rw [iN_lt (by omega) (by omega) (by omega) (by omega)]; exact hsc), if_pos hsc]
        exact ⟨_, I1, rfl, rfl, w2⟩
      · rw [ite_n (by rw [iN_lt (by omega) (by omega) (by omega) (by omega)]; exact hsc), if_neg hsc]
        obtain ⟨y, I2, f1, f2, f3⟩ := ih n (lead V c (S (4 + b) + j) 0 1) (nht V b (burd V S b) c (S (4 + b) + j) h' (S (16 + b) + j)) (j + 1) I1 hc1 (by omega) ⟨lead_lo h.1, lead_hi h.1⟩ hnn (by omega) (by omega)
        refine ⟨y, I2, f1, ?_, ex_trans w2 f3⟩
        rw [f2]
        congr 2 <;> omega
theorem cl_Singe (hr0 : r = 3 ∨ r = 19) (h : cOK V S r I) {b : Int} (hb : -2147483648 ≤ b ∧ b < 2147483648) {n : Nat} (hn : 340 ≤ n) : ∃ I', fX11_singe n (iN b) I r = some (iN (aSng V S b), I') ∧ ex [r + 3, r + 4] I I' := by
  have hu := h.1.1
  rw [fX11_singe, cl_board h hb]
  unfold aSng
  simp only [iN_lit, iN_neg]
  by_cases hb' : 0 ≤ b ∧ b < V 0 2
  · have hs := h.2.1.1 b hb'.1 hb'.2
    obtain ⟨l6, l7⟩ := lft_le h.1 h.2.1 hb'.1 hb'.2
    rw [if_pos hb', ite_n n10, if_pos hb', fX8_strokesToScorch, cl_burden h.1 h.2.2.1 h.2.2.2 (by omega) (wfS_pl h.2.1 h.1) (by omega), Option.bind_some, cl_col h.1 h.2.2.2 hb'.1 hb'.2, cl_row h.1 h.2.2.2 hb'.1 hb'.2, cl_heat h.1 h.2.2.2 hb'.1 hb'.2]
    obtain ⟨y, I2, f1, f2, f3⟩ := cl_singe_l hr0 hb'.1 hb'.2 (lft V S b) n (S b) (S (8 + b)) 0 I h (by omega) (by omega) (by omega) (by omega) (by omega)
    simp only [iN_lit, iN_neg]
    rw [f1, Option.bind_some]
    refine ⟨I2, ?_, f3⟩
    rw [Int.add_zero, Int.add_zero, Int.zero_add] at f2
    rw [← f2]
    cases y <;> rfl
  · rw [if_neg hb', ite_p rfl, if_neg hb']
    exact ⟨I, rfl, ex_refl⟩
end LDR
