/-! THE RIVER that was told. -/
def vW (W : (Nat → Int → Int)) : (Nat → Int → Int) := fun b z => if b = 1 then (if W 1 z < 0 then 0 else W 1 z) else W b z
def sW (W : (Nat → Int → Int)) : Int → Int := fun z => if 0 ≤ z ∧ z < W 0 2 then W 4 z else if 20 ≤ z ∧ z < 20 + W 0 3 then -1 else if z = 27 then W 0 7 else 0
section RVC
variable {r p : Nat} {I : (Nat → Nat → Int32)} {J : mJ} {W : (Nat → Int → Int)} {X : Int32} {NB NL : Nat → List Int}
theorem vW_r {k : Nat} (h : ¬ k = 1) : vW W k = W k := by funext z; unfold vW; rw [if_neg h]
theorem vW_1 {z : Int} : vW W 1 z = if W 1 z < 0 then 0 else W 1 z := by unfold vW; rw [if_pos rfl]
theorem wfV_W (h : wfB W X NB NL) : wfV (vW W) := by
  obtain ⟨h1, h2, h3, h4, h5, h6, h7, h8, h9, h10⟩ := h
  have ef7 : ∀ j : Int, W 7 j = vW W 7 j := fun j => by rw [vW_r (by omega)]
  refine ⟨?_, fun z z1 z2 => ?_, ?_, ?_, ?_, ?_, ?_⟩
  · rw [vW_r (k := 0) (by omega)]; omega
  · rw [vW_1]; have := h2 z z1 z2; split <;> omega
  · rw [vW_r (k := 2) (by omega)]; exact h3
  · rw [vW_r (k := 0) (by omega), vW_r (k := 3) (by omega), vW_r (k := 4) (by omega), vW_r (k := 5) (by omega)]; exact h4
  · rw [vW_r (k := 0) (by omega), vW_r (k := 6) (by omega)]; exact h5
  · rw [vW_r (k := 0) (by omega)]
    exact fun z hz => okz_c ef7 (h6 z hz)
  · rw [vW_r (k := 0) (by omega), ← fdep_c (V := W) (V' := vW W) (fun j _ => ef7 j)]
    rcases h7 with h | h
    · exact Or.inl h.2.1
    · exact Or.inr h.2.1
theorem wfS_W (h : wfB W X NB NL) {t : Int} (ht : 0 ≤ t) : wfS (vW W) t (sW W) := by
  obtain ⟨h1, h2, h3, h4, -⟩ := h
  rw [wfS, vW_r (k := 0) (by omega)]
  refine ⟨fun b b1 b2 => ?_, fun l l1 l2 => ?_, ?_, ?_⟩
  · have := h4 b b1 b2
    have e0 : sW W b = W 4 b := by unfold sW; rw [if_pos ⟨b1, b2⟩]
    have e4 : sW W (4 + b) = 0 := by unfold sW; rw [if_neg (by omega), if_neg (by omega), if_neg (by omega)]
    have e8 : sW W (8 + b) = 0 := by unfold sW; rw [if_neg (by omega), if_neg (by omega), if_neg (by omega)]
    have e12 : sW W (12 + b) = 0 := by unfold sW; rw [if_neg (by omega), if_neg (by omega), if_neg (by omega)]
    have e16 : sW W (16 + b) = 0 := by unfold sW; rw [if_neg (by omega), if_neg (by omega), if_neg (by omega)]
    rw [e0, e4, e8, e12, e16]; omega
  · have e : sW W (20 + l) = -1 := by unfold sW; rw [if_neg (by omega), if_pos (by omega)]
    rw [e]; omega
  · have e : sW W 27 = W 0 7 := by unfold sW; rw [if_neg (by omega), if_neg (by omega), if_pos rfl]
    rw [e]; omega
  · have e : sW W 27 = W 0 7 := by unfold sW; rw [if_neg (by omega), if_neg (by omega), if_pos rfl]
    rw [e]; omega
/-- the class's river is V -/
theorem clsV_W (hw : wfB W X NB NL) (h : cBd W X NB NL r I J) : clsV (vW W) r I := by
  obtain ⟨h0, ⟨a1, a2, a3, a4, a5, a6, a7, a8, a9, a10⟩, ⟨b1, b2, b3, b4, b5, b6, b7⟩, -⟩ := h
  rw [clsV, vW_r (k := 0) (by omega), vW_r (k := 2) (by omega), vW_r (k := 3) (by omega), vW_r (k := 4) (by omega), vW_r (k := 5) (by omega), vW_r (k := 6) (by omega), vW_r (k := 7) (by omega)]
  refine ⟨⟨a1, a2, a5, a6, a7, a9, a10⟩, ⟨W 1, b1, fun z z1 z2 => ?_⟩, b2, b3, b4, b5, b6, b7⟩
  have := hw.2.1 z z1 z2
  exact ⟨this.1, this.2, vW_1⟩
theorem cl_begin (hr0 : r = 3 ∨ r = 19) (hw : wfB W X NB NL) (h : cBd W X NB NL r I J) {n rv : Nat} (hn : 20 ≤ n) : ∃ I1, fX7_begin n r I rv = some I1 ∧ ex [32] I I1 ∧ clsS (vW W) (sW W) I1 := by
  have hb := hw.1
  obtain ⟨-, ⟨-, -, -, -, a5, -, -, a8, -⟩, ⟨-, -, -, b4, -⟩, -⟩ := id h
  have hf32 : ∀ k, k < 28 → mf_fill I 32 28 0 32 k = iN 0 := fun k hk => by rw [fill_eq hk]; rfl
  have hfe : ex [32] I (mf_fill I 32 28 0) := ex_fill (by simp)
  obtain ⟨n2, M, q1, q2, q3, q4⟩ := loop (fun n (k : Int) (s : (Nat → Nat → Int32)) => fX7_begin_L15 n (iN k) r s) 1 (P := W 0 2) (fun k s => ex [32] I s ∧ ∀ z : Int, 0 ≤ z → z < 28 → s 32 z.toNat = iN (if z % 5 = 0 ∧ z / 5 < k then W 4 (z / 5) else 0)) (by
    intro n k s hn h0 h1 ⟨i1, i2⟩
    have e4 : s r 4 = iN (W 0 2) := by rw [i1 r (by simp; omega)]; exact a5
    have es : fX5_startOf (iN k) r s = iN (W 4 k) := by
      unfold fX5_startOf
      rw [iN_pick (by omega) (by omega) (by omega), i1 (r + 8) (by simp; omega)]
      exact b4 k h0 h1
    have eset : fX7_set (iN k) 0 (iN (W 4 k)) s = mm_up s 32 (k * 5).toNat (iN (W 4 k)) := by
      unfold fX7_set
      have : (iN k * 5 + 0 : Int32) = iN (k * 5) := by
        show iN k * iN 5 + iN 0 = _
        rw [iN_mul, iN_add, Int.add_zero]
      rw [this, iN_put (by omega) (by omega) (by omega)]
    refine ⟨mm_up s 32 (k * 5).toNat (iN (W 4 k)), ?_, ex_trans i1 (ex_up (by simp)), fun z z1 z2 => ?_⟩
    · show fX7_begin_L15 (n + 1) (iN k) r s = _
      rw [fX7_begin_L15, e4, ite_p (by rw [iN_lt (by omega) (by omega) (by omega) (by omega)]; exact h1), es, eset]
      rw [show (iN k + 1 : Int32) = iN (k + 1) from iN_add k 1]
    · rw [up_c]
      by_cases e : z.toNat = (k * 5).toNat
      · rw [if_pos e, if_pos (by omega), show z / 5 = k by omega]
      · rw [if_neg e, i2 z z1 z2]
        congr 1
        by_cases c : z % 5 = 0 ∧ z / 5 < k
        · rw [if_pos c, if_pos (by omega)]
        · rw [if_neg c, if_neg (by omega)]) (W 0 2).toNat n 0 (mf_fill I 32 28 0) (by omega) (by omega) ⟨hfe, fun z z1 z2 => by rw [hf32 _ (by omega), if_neg (by omega)]⟩ (by omega)
  obtain ⟨n2, rfl⟩ : ∃ k, n2 = k + 1 := ⟨n2 - 1, by omega⟩
  have q2 : fX7_begin_L15 n 0 r (mf_fill I 32 28 0) = fX7_begin_L15 (n2 + 1) (iN (W 0 2)) r M := q2
  have e4 : M r 4 = iN (W 0 2) := by rw [q3 r (by simp; omega)]; exact a5
  rw [fX7_begin, q2, fX7_begin_L15, e4, ite_n (iN_ir _), Option.bind_some]
  obtain ⟨n3, M2, p1, p2, p3, p4⟩ := loop (fun n (k : Int) (s : (Nat → Nat → Int32)) => fX7_begin_L42 n (iN k) r s) 1 (P := 7) (fun k s => ex [32] I s ∧ ∀ z : Int, 0 ≤ z → z < 28 → s 32 z.toNat = iN (if 20 ≤ z ∧ z < 20 + k then -1 else if z % 5 = 0 ∧ z / 5 < W 0 2 then W 4 (z / 5) else 0)) (by
    intro n k s hn h0 h1 ⟨i1, i2⟩
    have eset : fX7_setPlace (iN k) (-1) s = mm_up s 32 (20 + k).toNat (iN (-1)) := by
      unfold fX7_setPlace
      have : ((20 : Int32) + iN k) = iN (20 + k) := iN_add 20 k
      rw [this, iN_put (by omega) (by omega) (by omega)]
      rfl
    refine ⟨mm_up s 32 (20 + k).toNat (iN (-1)), ?_, ex_trans i1 (ex_up (by simp)), fun z z1 z2 => ?_⟩
    · show fX7_begin_L42 (n + 1) (iN k) r s = _
      rw [fX7_begin_L42, ite_p (show iN k < (7 : Int32) by show iN k < iN 7; rw [iN_lt (by omega) (by omega) (by omega) (by omega)]; exact h1), eset]
      rw [show (iN k + 1 : Int32) = iN (k + 1) from iN_add k 1]
    · rw [up_c]
      by_cases e : z.toNat = (20 + k).toNat
      · rw [if_pos e, if_pos (by omega)]
      · rw [if_neg e, i2 z z1 z2]
        congr 1
        by_cases c : 20 ≤ z ∧ z < 20 + k
        · rw [if_pos c, if_pos (show 20 ≤ z ∧ z < 20 + (k + 1) by omega)]
        · rw [if_neg c, if_neg (show ¬ (20 ≤ z ∧ z < 20 + (k + 1)) by omega)]) 7 n 0 M (by omega) (by omega) ⟨q3, fun z z1 z2 => by rw [q4 z z1 z2]; congr 1; rw [if_neg (show ¬ (20 ≤ z ∧ z < 20 + 0) by omega)]⟩ (by omega)
  obtain ⟨n3, rfl⟩ : ∃ k, n3 = k + 1 := ⟨n3 - 1, by omega⟩
  have p2 : fX7_begin_L42 n 0 r M = fX7_begin_L42 (n3 + 1) (iN 7) r M2 := p2
  have e7 : M2 r 7 = iN (W 0 7) := by rw [p3 r (by simp; omega)]; exact a8
  rw [p2, fX7_begin_L42, ite_n (show ¬ iN 7 < (7 : Int32) by decide), Option.bind_some, e7]
  have eput : mf_put M2 32 28 27 (iN (W 0 7)) = mm_up M2 32 27 (iN (W 0 7)) := iN_put (z := 27) (by omega) (by omega) (by omega)
  rw [eput]
  refine ⟨_, rfl, ex_trans p3 (ex_up (by simp)), fun z => if z = 27 then W 0 7 else if 20 ≤ z ∧ z < 27 then -1 else if z % 5 = 0 ∧ z / 5 < W 0 2 then W 4 (z / 5) else 0, fun z z1 z2 => ?_, ?_⟩
  · rw [up_c]
    dsimp only
    by_cases e : z.toNat = 27
    · rw [if_pos e, if_pos (show z = 27 by omega)]
    · rw [if_neg e, p4 z z1 z2, if_neg (show ¬ z = 27 by omega)]
      rfl
  · rw [lay, vW_r (k := 0) (by omega)]
    refine ⟨fun b w b1 b2 w1 w2 => ?_, fun l l1 l2 => ?_, ?_⟩
    · rw [if_neg (by omega), if_neg (by omega)]
      unfold sW
      by_cases e : w = 0
      · rw [if_pos (by omega), if_pos (by omega), show (b * 5 + w) / 5 = b by omega, show 4 * w + b = b by omega]
      · rw [if_neg (by omega), if_neg (by omega), if_neg (by omega), if_neg (by omega)]
    · rw [if_neg (by omega), if_pos (by omega)]
      unfold sW
      rw [if_neg (by omega), if_pos (by omega)]
    · rw [if_pos rfl]
      unfold sW
      rw [if_neg (by omega), if_neg (by omega), if_pos rfl]
end RVC
