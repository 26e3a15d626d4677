/-! The plain methods of both: landings, board, load, spot, hotter, about. -/
def aBd (V : (Nat → Int → Int)) (S : Int → Int) (b w : Int) : Int32 := if 0 ≤ b ∧ b < V 0 2 then (if w = 0 then iN (S b) else if w = 1 then iN (S (4 + b)) else if w = 2 then iN (S (8 + b)) else if w = 3 then iN (S (12 + b)) else if w = 4 then iN (S (16 + b)) else if w = 5 then iN (V 3 b) else if w = 6 then iN (V 5 b) else if w = 7 then iN (burd V S b) else if w = 8 then lds S b (V 0 3).toNat else iN (-1)) else iN (-1)
def aLd (V : (Nat → Int → Int)) (S : Int → Int) (l w : Int) : Int := if 0 ≤ l ∧ l < V 0 3 then (if w = 0 then V 6 l else if w = 1 then S (20 + l) else -3) else -3
def aSpo (V : (Nat → Int → Int)) (c w q : Int) : Int := if 0 ≤ c ∧ c < V 0 0 ∧ 0 ≤ w ∧ w ≤ V 0 1 then (if q = 0 then V 1 (8 * w + c) else if q = 1 then V 2 (8 * w + c) else -1) else -1
def aHo (V : (Nat → Int → Int)) (S : Int → Int) (b : Int) : Int := if 0 ≤ b ∧ b < V 0 2 then warm V (S (4 + b)) (S b) (burd V S b) (V 3 b) (S (16 + b)) (S (8 + b)) else -1
section PLA
variable {V : (Nat → Int → Int)} {S : Int → Int} {I : (Nat → Nat → Int32)} {r : Nat}
theorem rf_Landings (h : rOK V S I) {b : Int} (hb : -2147483648 ≤ b ∧ b < 2147483648) {n : Nat} (hn : 1100 ≤ n) : ∃ I', fX12_landings n (iN b) I = some (if 0 ≤ b ∧ b < V 0 2 then lnd V (lft V S b) (S b) (S (4 + b)) else iN (-1), I') ∧ ex [70, 71, 85, 87] I I' := by
  rw [fX12_landings, rf_board h hb, Option.bind_some]
  simp only [iN_lit, iN_neg]
  by_cases hh : 0 ≤ b ∧ b < V 0 2
  · rw [if_pos hh, ite_n n10, if_pos hh]
    obtain ⟨I', g1, g2⟩ := rf_land h hh.1 hh.2 hn
    rw [g1, Option.bind_some]
    exact ⟨I', rfl, g2⟩
  · rw [if_neg hh, ite_p rfl, if_neg hh]
    exact ⟨I, rfl, ex_refl⟩
theorem cl_Landings (h : cOK V S r I) {b : Int} (hb : -2147483648 ≤ b ∧ b < 2147483648) {n : Nat} (hn : 30 ≤ n) : fX11_landings n (iN b) I r = some (if 0 ≤ b ∧ b < V 0 2 then lnd V (lft V S b) (S b) (S (4 + b)) else iN (-1)) := by
  rw [fX11_landings, cl_board h hb]
  simp only [iN_lit, iN_neg]
  by_cases hh : 0 ≤ b ∧ b < V 0 2
  · rw [if_pos hh, ite_n n10, if_pos hh, cl_land h hh.1 hh.2 hn, Option.bind_some]
  · rw [if_neg hh, ite_p rfl, if_neg hh]
theorem rf_Board (h : rOK V S I) {b w : Int} (hb : -2147483648 ≤ b ∧ b < 2147483648) (hw : -2147483648 ≤ w ∧ w < 2147483648) {n : Nat} (hn : 40 ≤ n) : ∃ I', fX12_board n (iN b) (iN w) I = some (aBd V S b w, I') ∧ ex [85] I I' := by
  rw [fX12_board, rf_board h hb, Option.bind_some]
  simp only [iN_lit, iN_neg]
  unfold aBd
  by_cases hh : 0 ≤ b ∧ b < V 0 2
  · rw [if_pos hh, ite_n n10, if_pos hh]
    obtain ⟨I', g1, g2, g3, g4⟩ := rf_filled h (n := n) (by omega)
    have hu := h.1.1
    have hq := g3.2.2.1
    obtain ⟨⟨v0, v1, v2, v3, v4, v5, v6⟩, w1, w2, w3, w4, w5, w6, w7, w8⟩ := hq
    have pl := wfS_pl h.2.1 h.1
    rw [g1, Option.bind_some, rf_burden h.1 g3.2.2.1 (b := b) (by omega) g4 pl (by omega), rf_loads h.1 g3.2.2.1 g4 pl (w := b) (by omega) (by omega), Option.bind_some, Option.bind_some]
    have a0 := g4 b hh.1 (by omega)
    have a4 := g4 (4 + b) (by omega) (by omega)
    have a8 := g4 (8 + b) (by omega) (by omega)
    have a12 := g4 (12 + b) (by omega) (by omega)
    have a16 := g4 (16 + b) (by omega) (by omega)
    have b3 := w3 b hh.1 hh.2
    have b5 := w5 b hh.1 hh.2
    refine ⟨I', ?_, g2⟩
    simp (disch := omega) only [iN_add, iN_eq, iN_lt, iN_tn, a0, a4, a8, a12, a16, b3, b5]
    by_cases c0 : w = 0
    · simp (disch := omega) only [if_pos c0, if_neg]
    by_cases c1 : w = 1
    · simp (disch := omega) only [if_neg c0, if_pos c1, if_neg]
    by_cases c2 : w = 2
    · simp (disch := omega) only [if_neg c0, if_neg c1, if_pos c2, if_neg]
    by_cases c3 : w = 3
    · simp (disch := omega) only [if_neg c0, if_neg c1, if_neg c2, if_pos c3, if_neg]
    by_cases c4 : w = 4
    · simp (disch := omega) only [if_neg c0, if_neg c1, if_neg c2, if_neg c3, if_pos c4, if_neg]
    by_cases c5 : w = 5
    · simp (disch := omega) only [if_neg c0, if_neg c1, if_neg c2, if_neg c3, if_neg c4, if_pos c5, if_neg]
    by_cases c6 : w = 6
    · simp (disch := omega) only [if_neg c0, if_neg c1, if_neg c2, if_neg c3, if_neg c4, if_neg c5, if_pos c6, if_neg]
    by_cases c7 : w = 7
    · simp only [if_neg c0, if_neg c1, if_neg c2, if_neg c3, if_neg c4, if_neg c5, if_neg c6, if_pos c7]
    by_cases c8 : w = 8
    · simp only [if_neg c0, if_neg c1, if_neg c2, if_neg c3, if_neg c4, if_neg c5, if_neg c6, if_neg c7, if_pos c8]
    · simp only [if_neg c0, if_neg c1, if_neg c2, if_neg c3, if_neg c4, if_neg c5, if_neg c6, if_neg c7, if_neg c8]
  · rw [if_neg hh, ite_p rfl, if_neg hh]
    exact ⟨I, rfl, ex_refl⟩
theorem cl_Board (h : cOK V S r I) {b w : Int} (hb : -2147483648 ≤ b ∧ b < 2147483648) (hw : -2147483648 ≤ w ∧ w < 2147483648) {n : Nat} (hn : 40 ≤ n) : fX11_board n (iN b) (iN w) I r = some (aBd V S b w) := by
  rw [fX11_board, cl_board h hb]
  simp only [iN_lit, iN_neg]
  unfold aBd
  by_cases hh : 0 ≤ b ∧ b < V 0 2
  · have hu := h.1.1
    have pl := wfS_pl h.2.1 h.1
    rw [if_pos hh, ite_n n10, if_pos hh, cl_burden h.1 h.2.2.1 h.2.2.2 (b := b) (by omega) pl (by omega), cl_loads h (w := b) (by omega) (by omega), Option.bind_some, Option.bind_some, cl_col h.1 h.2.2.2 hh.1 hh.2, cl_row h.1 h.2.2.2 hh.1 hh.2, cl_heat h.1 h.2.2.2 hh.1 hh.2, cl_scor h.1 h.2.2.2 hh.1 hh.2, cl_made h.1 h.2.2.2 hh.1 hh.2, cl_wd h hh.1 hh.2, cl_bears h hh.1 hh.2]
    simp (disch := omega) only [iN_eq]
    by_cases c0 : w = 0
    · simp only [if_pos c0]
    by_cases c1 : w = 1
    · simp only [if_neg c0, if_pos c1]
    by_cases c2 : w = 2
    · simp only [if_neg c0, if_neg c1, if_pos c2]
    by_cases c3 : w = 3
    · simp only [if_neg c0, if_neg c1, if_neg c2, if_pos c3]
    by_cases c4 : w = 4
    · simp only [if_neg c0, if_neg c1, if_neg c2, if_neg c3, if_pos c4]
    by_cases c5 : w = 5
    · simp only [if_neg c0, if_neg c1, if_neg c2, if_neg c3, if_neg c4, if_pos c5]
    by_cases c6 : w = 6
    · simp only [if_neg c0, if_neg c1, if_neg c2, if_neg c3, if_neg c4, if_neg c5, if_pos c6]
    by_cases c7 : w = 7
    · simp only [if_neg c0, if_neg c1, if_neg c2, if_neg c3, if_neg c4, if_neg c5, if_neg c6, if_pos c7]
    by_cases c8 : w = 8
    · simp only [if_neg c0, if_neg c1, if_neg c2, if_neg c3, if_neg c4, if_neg c5, if_neg c6, if_neg c7, if_pos c8]
    · simp only [if_neg c0, if_neg c1, if_neg c2, if_neg c3, if_neg c4, if_neg c5, if_neg c6, if_neg c7, if_neg c8]
  · rw [if_neg hh, ite_p rfl, if_neg hh]
theorem cl_ld (h : cOK V S r I) {b : Int} (hb : -2147483648 ≤ b ∧ b < 2147483648) : fX7_isLoad (iN b) I r = if 0 ≤ b ∧ b < V 0 3 then iN 1 else iN 0 := by
  have hu := h.1.1
  have hq := h.2.2.1.1
  rw [fX7_isLoad, hq.2.2.2.1]
  simp (disch := omega) only [iN_lit, iN_lt]
  by_cases b0 : b < 0
  · rw [if_pos b0, if_neg (by omega)]
  · rw [if_neg b0]
    by_cases b1 : b < V 0 3
    · rw [if_pos b1, if_pos (by omega)]
    · rw [if_neg b1, if_neg (by omega)]
theorem rf_Load (h : rOK V S I) {b w : Int} (hb : -2147483648 ≤ b ∧ b < 2147483648) (hw : -2147483648 ≤ w ∧ w < 2147483648) : fX12_load (iN b) (iN w) I = some (iN (aLd V S b w)) := by
  rw [fX12_load, rf_load h hb, Option.bind_some]
  simp only [iN_lit, iN_neg]
  rw [rf_in hw (by omega) (by omega)]
  unfold aLd
  by_cases hh : 0 ≤ b ∧ b < V 0 3
  · have hu := h.1.1
    have hq := h.2.2.1
    obtain ⟨⟨v0, v1, v2, v3, v4, v5, v6⟩, w1, w2, w3, w4, w5, w6, w7, w8⟩ := hq
    have b6 := w6 b hh.1 hh.2
    have a20 := h.2.2.2 (20 + b) (by omega) (by omega)
    rw [if_pos hh, ite_n n10, if_pos hh]
    by_cases c0 : w = 0
    · rw [if_pos c0, if_pos (show 0 ≤ w ∧ w ≤ 1 by omega), ite_n n10]
      simp (disch := omega) only [iN_add, iN_eq, iN_lt, iN_tn, if_neg, b6, if_pos c0]
    by_cases c1 : w = 1
    · rw [if_neg c0, if_pos c1, if_pos (show 0 ≤ w ∧ w ≤ 1 by omega), ite_n n10]
      simp (disch := omega) only [iN_add, iN_eq, iN_lt, iN_tn, if_neg, a20]
    · rw [if_neg c0, if_neg c1, if_neg (show ¬ (0 ≤ w ∧ w ≤ 1) by omega), ite_p rfl]
  · rw [if_neg hh, ite_p rfl, if_neg hh]
theorem cl_Load (h : cOK V S r I) {b w : Int} (hb : -2147483648 ≤ b ∧ b < 2147483648) (hw : -2147483648 ≤ w ∧ w < 2147483648) : fX11_load (iN b) (iN w) I r = iN (aLd V S b w) := by
  rw [fX11_load, cl_ld h hb]
  simp only [iN_lit, iN_neg]
  unfold aLd
  by_cases hh : 0 ≤ b ∧ b < V 0 3
  · rw [if_pos hh, ite_n n10, if_pos hh, cl_lwd h hh.1 hh.2, cl_place h.1 h.2.2.2 hh.1 hh.2]
    simp (disch := omega) only [iN_eq]
    by_cases c0 : w = 0
    · rw [if_pos c0, if_pos c0]
    by_cases c1 : w = 1
    · rw [if_neg c0, if_pos c1, if_neg c0, if_pos c1]
    · rw [if_neg c0, if_neg c1, if_neg c0, if_neg c1]
  · rw [if_neg hh, ite_p rfl, if_neg hh]
theorem rf_cur (hw : wfV V) (hV : refV V I) {c w : Int} (h1 : 0 ≤ c) (h2 : c < V 0 0) (h3 : 0 ≤ w) (h4 : w ≤ V 0 1) : fX12_currentAt (iN c) (iN w) I = some (iN (V 1 (8 * w + c))) := by
  have hu := hw.1
  have a := hV.2.1 (8 * w + c) (by omega) (by omega)
  rw [fX12_currentAt]
  simp (disch := omega) only [iN_lit, iN_add, iN_sub, iN_mul, iN_neg, iN_lt, iN_eq, iN_tn, if_true, if_false, if_pos, if_neg, a]
theorem rf_Spot (h : rOK V S I) {c w q : Int} (hc : -2147483648 ≤ c ∧ c < 2147483648) (hw : -2147483648 ≤ w ∧ w < 2147483648) (hq : -2147483648 ≤ q ∧ q < 2147483648) : fX12_spot (iN c) (iN w) (iN q) I = some (iN (aSpo V c w q)) := by
  have hu := h.1.1
  have hq' := h.2.2.1
  obtain ⟨⟨v0, v1, v2, v3, v4, v5, v6⟩, w1, w2, w3, w4, w5, w6, w7, w8⟩ := hq'
  rw [fX12_spot, v0, v1]
  simp only [iN_lit, iN_neg, iN_sub]
  rw [rf_in hc (by omega) (by omega), rf_in hw (by omega) (by omega), rf_in hq (by omega) (by omega)]
  unfold aSpo
  by_cases e1 : 0 ≤ c ∧ c ≤ V 0 0 - 1
  · rw [if_pos e1, ite_n n10]
    by_cases e2 : 0 ≤ w ∧ w ≤ V 0 1
    · rw [if_pos e2, ite_n n10, if_pos (show 0 ≤ c ∧ c < V 0 0 ∧ 0 ≤ w ∧ w ≤ V 0 1 by omega)]
      by_cases c0 : q = 0
      · subst c0
        rw [if_pos (show (0 : Int) ≤ 0 ∧ (0 : Int) ≤ 1 by omega), ite_n n10, ite_p rfl, rf_cur h.1 h.2.2.1 (by omega) (by omega) e2.1 e2.2, Option.bind_some, if_pos rfl]
      by_cases c1 : q = 1
      · subst c1
        rw [if_pos (show (0 : Int) ≤ 1 ∧ (1 : Int) ≤ 1 by omega), ite_n n10, ite_n n10, rf_iron h.1 h.2.2.1 (by omega) (by omega) e2.1 e2.2, Option.bind_some, if_neg (show ¬ (1 : Int) = 0 by omega), if_pos (show (1 : Int) = 1 from rfl), fX12_truth]
        simp only [iN_lit]
        have i2 := h.1.2.2.1 (8 * w + c) (by omega) (by omega)
        by_cases e3 : V 2 (8 * w + c) = 1
        · rw [if_pos e3, ite_n n10, e3]
        · rw [if_neg e3, ite_p rfl, show V 2 (8 * w + c) = 0 by omega]
      · rw [if_neg (show ¬ (0 ≤ q ∧ q ≤ 1) by omega), ite_p rfl, if_neg c0, if_neg c1]
    · rw [if_neg e2, ite_p rfl, if_neg (show ¬ (0 ≤ c ∧ c < V 0 0 ∧ 0 ≤ w ∧ w ≤ V 0 1) by omega)]
  · rw [if_neg e1, ite_p rfl, if_neg (show ¬ (0 ≤ c ∧ c < V 0 0 ∧ 0 ≤ w ∧ w ≤ V 0 1) by omega)]
theorem cl_Spot (h : cOK V S r I) {c w q : Int} (hc : -2147483648 ≤ c ∧ c < 2147483648) (hw : -2147483648 ≤ w ∧ w < 2147483648) (hq : -2147483648 ≤ q ∧ q < 2147483648) : fX11_spot (iN c) (iN w) (iN q) I r = iN (aSpo V c w q) := by
  have hu := h.1.1
  rw [fX11_spot, cl_cell h.1 h.2.2.1 c w hc hw]
  simp only [iN_lit, iN_neg]
  unfold aSpo
  by_cases e : 0 ≤ c ∧ c < V 0 0 ∧ 0 ≤ w ∧ w ≤ V 0 1
  · rw [if_pos e, ite_n n10, if_pos e]
    rw [cl_cur h.1 h.2.2.1 e.1 e.2.1 e.2.2.1 e.2.2.2, cl_iron h.1 h.2.2.1 e.1 e.2.1 e.2.2.1 e.2.2.2]
    simp (disch := omega) only [iN_eq]
    by_cases c0 : q = 0
    · rw [if_pos c0, if_pos c0]
    by_cases c1 : q = 1
    · rw [if_neg c0, if_pos c1, if_neg c0, if_pos c1]
      have i2 := h.1.2.2.1 (8 * w + c) (by omega) (by omega)
      by_cases e3 : V 2 (8 * w + c) = 1
      · rw [if_pos e3, ite_n n10, e3]
      · rw [if_neg e3, ite_p rfl, show V 2 (8 * w + c) = 0 by omega]
    · rw [if_neg c0, if_neg c1, if_neg c0, if_neg c1]
  · rw [if_neg e, ite_p rfl, if_neg e]
theorem rf_Hotter (h : rOK V S I) {b : Int} (hb : -2147483648 ≤ b ∧ b < 2147483648) {n : Nat} (hn : 310 ≤ n) : ∃ I', fX12_hotter n (iN b) I = some (iN (aHo V S b), I') ∧ ex [70, 71, 85] I I' := by
  obtain ⟨I1, g1, g2, g3, g4⟩ := rf_filled h (n := n) (by omega)
  rw [fX12_hotter, g1, Option.bind_some, rf_board g3 hb, Option.bind_some]
  simp only [iN_lit, iN_neg]
  unfold aHo
  by_cases hh : 0 ≤ b ∧ b < V 0 2
  · rw [if_pos hh, ite_n n10, if_pos hh]
    obtain ⟨I2, f1, f2⟩ := rf_hot h.1 g3.2.2.1 hh.1 hh.2 g4 (wfS_pl h.2.1 h.1) (n := n) (by omega)
    rw [f1, Option.bind_some]
    exact ⟨I2, rfl, ex_trans (ex_mono g2 (by decide)) (ex_mono f2 (by decide))⟩
  · rw [if_neg hh, ite_p rfl, if_neg hh]
    exact ⟨I1, rfl, ex_mono g2 (by decide)⟩
theorem cl_next (h : cOK V S r I) {b : Int} (hb1 : 0 ≤ b) (hb2 : b < V 0 2) {n : Nat} (hn : 310 ≤ n) : ∃ I', fX7_nextWarmth n (iN b) I r = some (iN (warm V (S (4 + b)) (S b) (burd V S b) (V 3 b) (S (16 + b)) (S (8 + b))), I') ∧ ex [r + 3, r + 4] I I' := by
  have hu := h.1.1
  obtain ⟨I', g1, g2⟩ := cl_warm h.1 h.2.2.1 (b := b) (row := S (4 + b)) (col := S b) (load := burd V S b) (made := S (16 + b)) (hot := S (8 + b)) hb1 hb2 (n := n) (by omega)
  rw [fX7_nextWarmth, cl_burden h.1 h.2.2.1 h.2.2.2 (b := b) (by omega) (wfS_pl h.2.1 h.1) (by omega), Option.bind_some, cl_row h.1 h.2.2.2 hb1 hb2, cl_col h.1 h.2.2.2 hb1 hb2, cl_made h.1 h.2.2.2 hb1 hb2, cl_heat h.1 h.2.2.2 hb1 hb2, g1, Option.bind_some]
  exact ⟨I', rfl, g2⟩
theorem cl_Hotter (h : cOK V S r I) {b : Int} (hb : -2147483648 ≤ b ∧ b < 2147483648) {n : Nat} (hn : 310 ≤ n) : ∃ I', fX11_hotter n (iN b) I r = some (iN (aHo V S b), I') ∧ ex [r + 3, r + 4] I I' := by
  rw [fX11_hotter, cl_board h hb]
  simp only [iN_lit, iN_neg]
  unfold aHo
  by_cases hh : 0 ≤ b ∧ b < V 0 2
  · rw [if_pos hh, ite_n n10, if_pos hh]
    obtain ⟨I', g1, g2⟩ := cl_next h hh.1 hh.2 hn
    rw [g1, Option.bind_some]
    exact ⟨I', rfl, g2⟩
  · rw [if_neg hh, ite_p rfl, if_neg hh]
    exact ⟨I, rfl, ex_refl⟩
end PLA
