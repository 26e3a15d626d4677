/-! LINES: currents and irons (written by gen92d.py). -/
theorem uw_ud {W : (Nat → Int → Int)} {a : Nat} {k x : Int} : uw W a k x a = ud (W a) k x := by
  funext z
  unfold uw ud
  by_cases h : z = k
  · rw [if_pos ⟨rfl, h⟩, if_pos h]
  · rw [if_neg (fun c => h c.2), if_neg h]
theorem uw_row {W : (Nat → Int → Int)} {a b : Nat} {k x : Int} (h : ¬ b = a) : uw W a k x b = W b := by funext z; exact uw_ne (fun c => h c.1)
section LNC
variable {B : Nat → Int} {m r p : Nat} {I : (Nat → Nat → Int32)} {J : mJ} {I' : (Nat → Nat → Int32)} {J' : mJ} {W : (Nat → Int → Int)} {X : Int32} {NB NL : Nat → List Int}
theorem cl_cel (hc : cBd W X NB NL r I J) (hw : wfB W X NB NL) {c w : Int} (h1 : 0 ≤ c ∧ c < W 0 0) (h2 : 0 ≤ w ∧ w ≤ W 0 1) : fX5_isCell (iN c) (iN w) r I = iN 1 ∧ fX5_cell (iN c) (iN w) = iN (8 * w + c) ∧ (0 ≤ 8 * w + c ∧ 8 * w + c < 56) := by
  obtain ⟨-, ⟨a1, a2, -⟩, -⟩ := hc
  have hb := hw.1
  refine ⟨?_, ?_, by omega⟩
  · rw [fX5_isCell, a1, a2]
    simp (disch := omega) only [iN_lit, iN_add, iN_sub, iN_mul, iN_neg, iN_lt, iN_eq, iN_tn, if_true, if_false, if_pos, if_neg]
  · unfold fX5_cell
    simp only [iN_lit, iN_mul, iN_add]
    congr 1; omega
theorem cBd_cur (hr0 : r = 3 ∨ r = 19) (h : cBd W X NB NL r I J) {z v : Int} (hz : 0 ≤ z ∧ z < 56) : cBd (uw (uw W 1 z v) 0 8 (W 0 8 + 1)) X NB NL r (mm_up (mm_up I (r + 5) z.toNat (iN v)) r 2 (iN (W 0 8 + 1))) J := by
  obtain ⟨h0, ⟨a1, a2, a3, a4, a5, a6, a7, a8, a9, a10⟩, ⟨b1, b2, b3, b4, b5, b6, b7⟩, n1, n2⟩ := h
  have e : ∀ j, ¬ j = 8 → (uw (uw W 1 z v) 0 8 (W 0 8 + 1)) 0 j = W 0 j := fun j hj => by rw [uw_ne (by omega), uw_ne (by omega)]
  have ee : (uw (uw W 1 z v) 0 8 (W 0 8 + 1)) 0 8 = W 0 8 + 1 := uw_eq
  have er : ∀ a, ¬ a = 0 → ¬ a = 1 → (uw (uw W 1 z v) 0 8 (W 0 8 + 1)) a = W a := fun a h1 h2 => by rw [uw_row h1, uw_row h2]
  have e1 : (uw (uw W 1 z v) 0 8 (W 0 8 + 1)) 1 = ud (W 1) z v := by rw [uw_row (by omega), uw_ud]
  have hh : ∀ {a : Nat} {n : Int} {F : Int → Int}, ¬ a = r → ¬ a = r + 5 → hr I a n F → hr (mm_up (mm_up I (r + 5) z.toNat (iN v)) r 2 (iN (W 0 8 + 1))) a n F := fun ha hb h z h1 h2 => by rw [up_a ha, up_a hb]; exact h z h1 h2
  have h1 : hr (mm_up (mm_up I (r + 5) z.toNat (iN v)) r 2 (iN (W 0 8 + 1))) (r + 5) 56 (ud (W 1) z v) := fun q q1 q2 => by rw [up_a (by omega)]; exact hr_up b1 hz.1 v q q1 q2
  refine ⟨by rw [up_a (by omega), up_a (by omega)]; exact h0, ?_, ?_, ?_, ?_⟩
  · rw [e 0 (by omega), e 1 (by omega), e 9 (by omega), e 2 (by omega), e 3 (by omega), e 4 (by omega), e 7 (by omega), e 5 (by omega), e 6 (by omega), ee]
    refine ⟨?_, ?_, ?_, ?_, ?_, ?_, ?_, ?_, ?_, ?_⟩
    all_goals (first | exact up_eq | (rw [up_k (by omega), up_a (by omega)]; assumption) | (rw [up_a (by omega), up_a (by omega)]; assumption))
  · rw [e 2 (by omega), e 3 (by omega), e 5 (by omega), er 2 (by omega) (by omega), er 3 (by omega) (by omega), er 4 (by omega) (by omega), er 5 (by omega) (by omega), er 6 (by omega) (by omega), er 7 (by omega) (by omega), e1]
    exact ⟨h1, hh (by omega) (by omega) b2, hh (by omega) (by omega) b3, hh (by omega) (by omega) b4, hh (by omega) (by omega) b5, hh (by omega) (by omega) b6, hh (by omega) (by omega) b7⟩
  · rw [e 2 (by omega)]; exact n1
  · rw [e 3 (by omega)]; exact n2
theorem rBd_cur (h : rBd W X NB NL I J) {z v : Int} (hz : 0 ≤ z ∧ z < 56) (hv : 0 ≤ v ∧ v ≤ 7) : rBd (uw (uw W 1 z v) 0 8 (W 0 8 + 1)) X NB NL (mm_up (mm_up I 72 z.toNat (iN v)) 62 40 (iN (W 0 8 + 1))) J := by
  obtain ⟨⟨a1, a2, a3, a4, a5, a6, a7, a8, a9⟩, ⟨c1, c2, c3⟩, ⟨b1, b2, b3, b4, b5, b6⟩, d, n1, n2⟩ := h
  have e : ∀ j, ¬ j = 8 → (uw (uw W 1 z v) 0 8 (W 0 8 + 1)) 0 j = W 0 j := fun j hj => by rw [uw_ne (by omega), uw_ne (by omega)]
  have ee : (uw (uw W 1 z v) 0 8 (W 0 8 + 1)) 0 8 = W 0 8 + 1 := uw_eq
  have er : ∀ a, ¬ a = 0 → ¬ a = 1 → (uw (uw W 1 z v) 0 8 (W 0 8 + 1)) a = W a := fun a h1 h2 => by rw [uw_row h1, uw_row h2]
  have e1 : (uw (uw W 1 z v) 0 8 (W 0 8 + 1)) 1 = ud (W 1) z v := by rw [uw_row (by omega), uw_ud]
  have hh : ∀ {a : Nat} {n : Int} {F : Int → Int}, ¬ a = 62 → ¬ a = 72 → hr I a n F → hr (mm_up (mm_up I 72 z.toNat (iN v)) 62 40 (iN (W 0 8 + 1))) a n F := fun ha hb h z h1 h2 => by rw [up_a ha, up_a hb]; exact h z h1 h2
  have h1 : hr (mm_up (mm_up I 72 z.toNat (iN v)) 62 40 (iN (W 0 8 + 1))) 72 56 (ud (W 1) z v) := fun q q1 q2 => by
    rw [up_a (by omega), hr_up b1 hz.1 v q q1 q2]

  refine ⟨?_, ⟨by rw [up_k (by omega), up_a (by omega)]; exact c1, by rw [up_k (by omega), up_a (by omega)]; exact c2, by rw [up_k (by omega), up_a (by omega)]; exact c3⟩, ?_, ?_, ?_, ?_⟩
  · rw [e 0 (by omega), e 1 (by omega), e 9 (by omega), e 2 (by omega), e 3 (by omega), e 4 (by omega), e 7 (by omega), e 6 (by omega), ee]
    refine ⟨?_, ?_, ?_, ?_, ?_, ?_, ?_, ?_, ?_⟩
    all_goals (first | exact up_eq | (rw [up_k (by omega), up_a (by omega)]; assumption))
  · rw [e 2 (by omega), e 3 (by omega), er 2 (by omega) (by omega), er 3 (by omega) (by omega), er 4 (by omega) (by omega), er 5 (by omega) (by omega), er 6 (by omega) (by omega), e1]
    exact ⟨h1, hh (by omega) (by omega) b2, hh (by omega) (by omega) b3, hh (by omega) (by omega) b4, hh (by omega) (by omega) b5, hh (by omega) (by omega) b6⟩
  · rw [e 5 (by omega), er 7 (by omega) (by omega)]
    exact fun z => ⟨by rw [up_k (by omega), up_a (by omega)]; exact (d z).1, hh (by omega) (by omega) (d z).2.1, hh (by omega) (by omega) (d z).2.2⟩
  · rw [e 2 (by omega)]; exact n1
  · rw [e 3 (by omega)]; exact n2
theorem wfB_cur (h : wfB W X NB NL) {z v : Int} (hz : 0 ≤ z ∧ z < 56) (hv : 0 ≤ v ∧ v ≤ 7) (hm : W 0 8 < 16) : wfB (uw (uw W 1 z v) 0 8 (W 0 8 + 1)) X NB NL := by
  obtain ⟨h1, h2, h3, h4, h5, h6, h7, h8, h9, h10⟩ := h
  have e : ∀ j, ¬ j = 8 → (uw (uw W 1 z v) 0 8 (W 0 8 + 1)) 0 j = W 0 j := fun j hj => by rw [uw_ne (by omega), uw_ne (by omega)]
  have ee : (uw (uw W 1 z v) 0 8 (W 0 8 + 1)) 0 8 = W 0 8 + 1 := uw_eq
  have er : ∀ a, ¬ a = 0 → ¬ a = 1 → (uw (uw W 1 z v) 0 8 (W 0 8 + 1)) a = W a := fun a h1 h2 => by rw [uw_row h1, uw_row h2]
  have e1 : (uw (uw W 1 z v) 0 8 (W 0 8 + 1)) 1 = ud (W 1) z v := by rw [uw_row (by omega), uw_ud]
  have ef7 : ∀ j : Int, W 7 j = (uw (uw W 1 z v) 0 8 (W 0 8 + 1)) 7 j := fun j => by rw [er 7 (by omega) (by omega)]
  have f7 := fdep_c (V := W) (V' := uw (uw W 1 z v) 0 8 (W 0 8 + 1)) (z := (W 0 5).toNat) (fun j _ => ef7 j)
  refine ⟨?_, ?_, ?_, ?_, ?_, ?_, ?_, ?_, ?_, ?_⟩
  · rw [e 0 (by omega), e 1 (by omega), e 9 (by omega), e 2 (by omega), e 3 (by omega), e 4 (by omega), e 7 (by omega), e 5 (by omega), e 6 (by omega), ee]; omega
  · rw [e1]
    intro q q1 q2
    unfold ud
    by_cases e0 : q = z
    · rw [if_pos e0]; omega
    · rw [if_neg e0]; exact h2 q q1 q2
  · rw [er 2 (by omega) (by omega)]; exact h3
  · rw [e 0 (by omega), e 2 (by omega), er 3 (by omega) (by omega), er 4 (by omega) (by omega), er 5 (by omega) (by omega)]; exact h4
  · rw [e 3 (by omega), er 6 (by omega) (by omega)]; exact h5
  · rw [e 5 (by omega)]; exact fun q hq => okz_c ef7 (h6 q hq)
  · rw [e 5 (by omega), e 6 (by omega), ← f7]; exact h7
  · rw [e 2 (by omega)]; exact h8
  · rw [e 2 (by omega)]; exact h9
  · rw [e 3 (by omega)]; exact h10
/-- a column, a row, at which none is told -/
theorem LN_cur0 (hr0 : r = 3 ∨ r = 19) (hw : wfB W X NB NL) (hX : ¬ X = iN 0) (hm : W 0 8 < 16) {v : Int} (hv : 0 ≤ v ∧ v ≤ 7) (hT : TT B m p I J I' J') (hc : cBd W X NB NL r I J) (hR : rBd W X NB NL I' J') (f1 : I 16 11 = iN 0) (f2 : I 16 12 = iN (-1)) (f3 : I' 62 3 = iN (-1)) {n : Nat} (hn : 1700 ≤ n) :
    LN B m r p I J I' J' ((fX4_passNumber n 0 ((I r 0) - 1) I J).bind fun o1544 => (if o1544.1 = (-1) then some (0, o1544.2.1, o1544.2.2) else (fX4_isNumber 0 ((o1544.2.1 r 1) - 1) o1544.2.1).bind fun o1546 => (if o1546.1 = 0 then some (0, o1546.2, o1544.2.2) else (if (fX5_hasCurrent o1544.1 (o1546.2 16 6) r o1546.2) = 0 then (fX4_advance n (fX5_addCurrent (iN v) o1544.1 (o1546.2 16 6) r o1546.2) o1544.2.2).bind fun o1551 => (fX4_passEndOfLine n o1551.1 o1551.2).bind fun o1552 => (if o1552.1 = 0 ∨ o1552.1 = 1 then some (o1552.1, o1552.2.1, o1552.2.2) else none) else (if (fX4_refuse 3 o1546.2).1 = 0 ∨ (fX4_refuse 3 o1546.2).1 = 1 then some ((fX4_refuse 3 o1546.2).1, (fX4_refuse 3 o1546.2).2, o1544.2.2) else none)))))
      ((fX12_readCell_72 n 0 ((I' 62 39) - 1) I' J').bind fun o388 => (if 0 < (o388.2.1 62 2) then some (o388.2.1, o388.2.2) else (if o388.1 < 0 ∨ 56 ≤ o388.1.toNatClampNeg then none else some ((mm_up (mm_up o388.2.1 72 o388.1.toNatClampNeg (iN v)) 62 40 ((o388.2.1 62 40) + 1)), o388.2.2))).bind fun o446 => fX12_readLine_J235 n o446.1 o446.2) := by
  have hb := hw.1
  have e0 : I r 0 = iN (W 0 0) := hc.2.1.1
  have e38 : I' 62 38 = iN (W 0 0) := hR.1.1
  have e39 : I' 62 39 = iN (W 0 1) := hR.1.2.1
  have s0 : ∀ z : Int, (iN z - 1 : Int32) = iN (z - 1) := fun z => iN_sub z 1
  rw [e0, e39, s0, s0, fX12_readCell_72, e38, s0]
  /- a fault: the reference is through -/
  have tail : ∀ (x : Int32) (M : (Nat → Nat → Int32)) (L : mJ), hasF M → ((some (x, M, L) : Option (Int32 × (Nat → Nat → Int32) × mJ)).bind fun o388 => (if 0 < (o388.2.1 62 2) then some (o388.2.1, o388.2.2) else (if o388.1 < 0 ∨ 56 ≤ o388.1.toNatClampNeg then none else some ((mm_up (mm_up o388.2.1 72 o388.1.toNatClampNeg (iN v)) 62 40 ((o388.2.1 62 40) + 1)), o388.2.2))).bind fun o446 => fX12_readLine_J235 n o446.1 o446.2) = fX12_readLine_J235 n M L := by
    intro x M L hf
    rw [Option.bind_some]
    dsimp only
    rw [ite_p (hasF_no hf).2, Option.bind_some]
  rcases bt_num hT (lo := 0) (hi := W 0 0 - 1) (by omega) (by omega) hn with ⟨I1, x, I1', b1, b2, b3, b4, b5⟩ | ⟨c, I1, J1, I1', J1', hcv, b1, b2, b3, b4, b5, b6, b7, b8⟩
  · have b1 : fX4_passNumber n 0 (iN (W 0 0 - 1)) I J = some (iN (-1), I1, J) := b1
    have b2 : fX12_toldNumber n 0 (iN (W 0 0 - 1)) I' J' = some (x, I1', J') := b2
    have hf := FF_has b3
    rw [b1, b2, Option.bind_some, Option.bind_some]
    dsimp only
    rw [ite_p (show iN (-1) = (-1 : Int32) from rfl), ite_n (hasF_no hf).1, fX12_readCell_72_J64, num_F hf, Option.bind_some, tail _ _ _ hf]
    exact LN_F b3 (lC_f b4) lCJ_refl (lR_f b5) lRJ_refl
  · have b1 : fX4_passNumber n 0 (iN (W 0 0 - 1)) I J = some (iN c, I1, J1) := b1
    have b2 : fX12_toldNumber n 0 (iN (W 0 0 - 1)) I' J' = some (iN c, I1', J1') := b2
    have hc1 := cBd_k hr0 hc b5 b6
    have hR1 := rBd_r hR b7 b8
    have e1 : I1 r 1 = iN (W 0 1) := hc1.2.1.2.1
    rw [b1, b2, Option.bind_some, Option.bind_some]
    dsimp only
    rw [ite_n (show ¬ iN c = (-1 : Int32) by show ¬ iN c = iN (-1); rw [iN_eq (by omega) (by omega) (by omega) (by omega)]; omega), e1, s0, ite_p (show I1' 62 2 = (0 : Int32) from b3.2.2)]
    have r2 : (I1' 62 6 = (2 : Int32)) = (tK B m (tN B m p) = 2) := rf_num b3.2.1
    rcases bt_isn b3 (lo := 0) (hi := W 0 1 - 1) (by omega) (by omega) hn with ⟨I2, x, I2', d1, d2, d3, d4, d5, d6⟩ | ⟨k2, v1, v2, d1, I2', J2', d2, d3⟩
    · have d1 : fX4_isNumber 0 (iN (W 0 1 - 1)) I1 = some (iN 0, I2) := d1
      have d2 : fX12_toldNumber n 0 (iN (W 0 1 - 1)) I1' J1' = some (x, I2', J1') := d2
      rw [d1, Option.bind_some]
      dsimp only
      rw [ite_p (show iN 0 = (0 : Int32) from rfl)]
      have hj : fX12_readCell_72_J64 n 0 (iN (W 0 1 - 1)) (iN c) I1' J1' = some ((8 * x) + iN c, I2', J1') := by rw [fX12_readCell_72_J64, d2, Option.bind_some]
      have hall : (if (I1' 62 6) = 2 then (if (I1' 62 8) < 0 then (fX12_readCell_72_J64 n 0 (iN (W 0 1 - 1)) (iN c) I1' J1') else (if (iN (W 0 1 - 1)) < (I1' 62 8) then (fX12_readCell_72_J64 n 0 (iN (W 0 1 - 1)) (iN c) I1' J1') else (if ((8 * (I1' 62 8)) + (iN c)) < 0 ∨ 56 ≤ ((8 * (I1' 62 8)) + (iN c)).toNatClampNeg then none else (if (I1' 72 ((8 * (I1' 62 8)) + (iN c)).toNatClampNeg) < 0 then (fX12_readCell_72_J64 n 0 (iN (W 0 1 - 1)) (iN c) I1' J1') else (fX12_readCell_72_J64 n 0 (iN (W 0 1 - 1)) (iN c) (fX12_wrong 3 I1') J1'))))) else (fX12_readCell_72_J64 n 0 (iN (W 0 1 - 1)) (iN c) I1' J1')) = some ((8 * x) + iN c, I2', J1') := by
        by_cases k2 : tK B m (tN B m p) = 2
        · have e8 : I1' 62 8 = iN (tV B m (tN B m p)) := b3.2.1.2.2.2.2.2.1 k2
          have hv := tV_in k2
          rw [ite_p (r2.mpr k2), e8]
          by_cases h1 : tV B m (tN B m p) < 0
          · rw [ite_p (show iN (tV B m (tN B m p)) < (0 : Int32) by show iN _ < iN 0; rw [iN_lt (by omega) (by omega) (by omega) (by omega)]; exact h1), hj]
          · have h2 : W 0 1 - 1 < tV B m (tN B m p) := by
              by_cases h3 : W 0 1 - 1 < tV B m (tN B m p)
              · exact h3
              · exact absurd ⟨k2, by omega, by omega⟩ d6
            rw [ite_n (show ¬ iN (tV B m (tN B m p)) < (0 : Int32) by show ¬ iN _ < iN 0; rw [iN_lt (by omega) (by omega) (by omega) (by omega)]; exact h1), ite_p (show iN (W 0 1 - 1) < iN (tV B m (tN B m p)) by rw [iN_lt (by omega) (by omega) (by omega) (by omega)]; exact h2), hj]
        · rw [ite_n (fun z => k2 (r2.mp z)), hj]
      rw [hall, tail _ _ _ (FF_has d3)]
      exact LN_F d3 (lC_trans (lC_k b5) (lC_f d4)) (lCJ_k b6) (lR_trans (lR_r b7) (lR_f d5)) (lRJ_r b8)
    · have d1 : fX4_isNumber 0 (iN (W 0 1 - 1)) I1 = some (iN 1, I1) := d1
      have e6 : I1 16 6 = iN (tV B m (tN B m p)) := b3.1.2.2.2.2.2.2.1 k2
      have e8 : I1' 62 8 = iN (tV B m (tN B m p)) := b3.2.1.2.2.2.2.2.1 k2
      rw [d1, Option.bind_some]
      dsimp only
      rw [ite_n (show ¬ iN 1 = (0 : Int32) from n10), ite_p (r2.mpr k2)]
      simp only [e6, e8]
      rw [ite_n (show ¬ iN (tV B m (tN B m p)) < (0 : Int32) by show ¬ iN _ < iN 0; rw [iN_lt (by omega) (by omega) (by omega) (by omega)]; omega), ite_n (show ¬ iN (W 0 1 - 1) < iN (tV B m (tN B m p)) by rw [iN_lt (by omega) (by omega) (by omega) (by omega)]; omega)]
      have e8c : ((8 : Int32) * iN (tV B m (tN B m p))) + iN c = iN (8 * tV B m (tN B m p) + c) := by
        show iN 8 * iN _ + iN c = _
        rw [iN_mul, iN_add]
      obtain ⟨g1, g2, g3⟩ := cl_cel hc1 hw (c := c) (w := tV B m (tN B m p)) (by omega) (by omega)
      have eg : ¬ (iN (8 * tV B m (tN B m p) + c) < (0 : Int32) ∨ 56 ≤ (iN (8 * tV B m (tN B m p) + c)).toNatClampNeg) := by
        show ¬ (iN _ < iN 0 ∨ _)
        rw [iN_lt (by omega) (by omega) (by omega) (by omega), iN_tn (by omega) (by omega)]; omega
      rw [e8c, ite_n eg, iN_tn (by omega) (by omega)]
      have hrow : I1' 72 (8 * tV B m (tN B m p) + c).toNat = iN (W 1 (8 * tV B m (tN B m p) + c)) := hR1.2.2.1.1 _ g3.1 g3.2
      have crow : I1 (r + 5) (8 * tV B m (tN B m p) + c).toNat = iN (W 1 (8 * tV B m (tN B m p) + c)) := hc1.2.2.1.1 _ g3.1 g3.2
      have hbd := hw.2.1 (8 * tV B m (tN B m p) + c) g3.1 g3.2
      have hhas : (fX5_hasCurrent (iN c) (iN (tV B m (tN B m p))) r I1 = 0) = (W 1 (8 * tV B m (tN B m p) + c) = -1) := by
        unfold fX5_hasCurrent
        rw [g1, ite_n (show ¬ iN 1 = (0 : Int32) from n10), g2, iN_pick (by omega) (by omega) (by omega), crow]
        by_cases hfree : W 1 (8 * tV B m (tN B m p) + c) = -1
        · rw [ite_p (show iN (W 1 (8 * tV B m (tN B m p) + c)) = (-1 : Int32) by rw [hfree]; rfl)]
          exact propext ⟨fun _ => hfree, fun _ => rfl⟩
        · rw [ite_n (show ¬ iN (W 1 (8 * tV B m (tN B m p) + c)) = (-1 : Int32) by show ¬ iN _ = iN (-1); rw [iN_eq (by omega) (by omega) (by omega) (by omega)]; exact hfree)]
          exact propext ⟨fun h => absurd h (by decide), fun h => absurd h hfree⟩
      by_cases hfree : W 1 (8 * tV B m (tN B m p) + c) = -1
      · rw [ite_p (hhas.mpr hfree), hrow, ite_p (show iN (W 1 (8 * tV B m (tN B m p) + c)) < (0 : Int32) by rw [hfree]; decide)]
        obtain ⟨I3, J3, I3', J3', a1, a2, a3, a4, a5, a6, a7⟩ := bt_adv b3 (by omega) hn
        rw [d3] at a2
        have a2 := Option.some.inj a2
        cases a2
        have d2 : fX12_toldNumber n 0 (iN (W 0 1 - 1)) I1' J1' = some (iN (tV B m (tN B m p)), I2', J2') := d2
        rw [fX12_readCell_72_J64, d2, Option.bind_some, Option.bind_some]
        dsimp only
        rw [e8c, ite_n (show ¬ (0 : Int32) < I2' 62 2 by rw [a3.2.2]; decide), ite_n eg, iN_tn (by omega) (by omega), Option.bind_some]
        have hadd : fX5_addCurrent (iN v) (iN c) (iN (tV B m (tN B m p))) r I1 = mm_up (mm_up I1 (r + 5) (8 * tV B m (tN B m p) + c).toNat (iN v)) r 2 (iN (W 0 8 + 1)) := by
          unfold fX5_addCurrent
          rw [g2, iN_put (by omega) (by omega) (by omega), up_a (by omega), hc1.2.1.2.2.1]
          congr 1
          exact iN_add _ 1
        rw [hadd]
        have hT2 : TT B m (tN B m p) (mm_up (mm_up I1 (r + 5) (8 * tV B m (tN B m p) + c).toNat (iN v)) r 2 (iN (W 0 8 + 1))) J1 I1' J1' := TT_up b3 hr0 (fun a q h1 _ => by rw [up_o (by omega), up_o (by omega)]) (fun a q h1 h2 => rfl)
        obtain ⟨I4, J4, I4', J4', i1, i2, i3, i4, i5, i6, i7⟩ := bt_adv hT2 (by omega) hn
        rw [d3] at i2
        have i2 := Option.some.inj i2
        cases i2
        rw [i1, Option.bind_some]
        dsimp only
        have hR2 := rBd_r hR1 a6 a7
        have e40 : I2' 62 40 = iN (W 0 8) := hR2.1.2.2.1
        have e40' : (I2' 62 40 + 1 : Int32) = iN (W 0 8 + 1) := by rw [e40]; exact iN_add _ 1
        rw [e40']
        have hT4 : TT B m (tN B m (tN B m p)) I4 J4 (mm_up (mm_up I2' 72 (8 * tV B m (tN B m p) + c).toNat (iN v)) 62 40 (iN (W 0 8 + 1))) J2' := TT_up (r := r) i3 hr0 (fun a q h1 _ => rfl) (fun a q h1 h2 => by rw [up_o (by omega), up_o (by omega)])
        have := LN_end hr0 (wfB_cur hw (z := 8 * tV B m (tN B m p) + c) (v := v) g3 hv hm) hX hT4 (cBd_k hr0 (cBd_cur hr0 hc1 (z := 8 * tV B m (tN B m p) + c) (v := v) g3) i4 i5) (rBd_cur hR2 (z := 8 * tV B m (tN B m p) + c) (v := v) g3 hv) (by rw [i4 _ _ (by omega), up_a (by omega), up_a (by omega), b5 _ _ (by omega)]; exact f1) (by rw [i4 _ _ (by omega), up_a (by omega), up_a (by omega), b5 _ _ (by omega)]; exact f2) (by rw [up_k (by omega), up_a (by omega), a6 _ _ (by omega), b7 _ _ (by omega)]; exact f3) hn
        have hlt := ((tN_in (B := B) b3.1.1).2.2 (by omega)).2.2
        exact LN_w (LN_x this (by omega) (lC_trans (lC_k b5) (lC_trans (fun a q _ h2 => by rw [up_o (by omega), up_o (by omega)]) (lC_k i4))) (lCJ_trans (lCJ_k b6) (lCJ_k i5)) (lR_trans (lR_r b7) (lR_trans (lR_r a6) (lR_trans (lR_row (by omega)) (lR_up (by omega))))) (lRJ_trans (lRJ_r b8) (lRJ_r a7)))
      · have hneg : ¬ iN (W 1 (8 * tV B m (tN B m p) + c)) < (0 : Int32) := by
          show ¬ iN _ < iN 0
          rw [iN_lt (by omega) (by omega) (by omega) (by omega)]; omega
        rw [ite_n (fun z => hfree (hhas.mp z)), hrow, ite_n hneg]
        obtain ⟨I3, I3', i1, i2, i3, i4, i5⟩ := bt_ref b3 (j := 3) (by omega)
        have i1 : fX4_refuse 3 I1 = (iN 0, I3) := i1
        have i2 : fX12_wrong 3 I1' = I3' := i2
        rw [i1, i2, fX12_readCell_72_J64, num_F (FF_has i3), Option.bind_some, tail _ _ _ (FF_has i3), ite_p (show iN 0 = (0 : Int32) ∨ iN 0 = 1 from Or.inl rfl)]
        exact LN_F i3 (lC_trans (lC_k b5) (lC_f i4)) (lCJ_k b6) (lR_trans (lR_r b7) (lR_f i5)) (lRJ_r b8)
theorem cBd_iro (hr0 : r = 3 ∨ r = 19) (h : cBd W X NB NL r I J) {z v : Int} (hz : 0 ≤ z ∧ z < 56) : cBd (uw (uw W 2 z v) 0 9 (W 0 9 + 1)) X NB NL r (mm_up (mm_up I (r + 6) z.toNat (iN v)) r 3 (iN (W 0 9 + 1))) J := by
  obtain ⟨h0, ⟨a1, a2, a3, a4, a5, a6, a7, a8, a9, a10⟩, ⟨b1, b2, b3, b4, b5, b6, b7⟩, n1, n2⟩ := h
  have e : ∀ j, ¬ j = 9 → (uw (uw W 2 z v) 0 9 (W 0 9 + 1)) 0 j = W 0 j := fun j hj => by rw [uw_ne (by omega), uw_ne (by omega)]
  have ee : (uw (uw W 2 z v) 0 9 (W 0 9 + 1)) 0 9 = W 0 9 + 1 := uw_eq
  have er : ∀ a, ¬ a = 0 → ¬ a = 2 → (uw (uw W 2 z v) 0 9 (W 0 9 + 1)) a = W a := fun a h1 h2 => by rw [uw_row h1, uw_row h2]
  have e1 : (uw (uw W 2 z v) 0 9 (W 0 9 + 1)) 2 = ud (W 2) z v := by rw [uw_row (by omega), uw_ud]
  have hh : ∀ {a : Nat} {n : Int} {F : Int → Int}, ¬ a = r → ¬ a = r + 6 → hr I a n F → hr (mm_up (mm_up I (r + 6) z.toNat (iN v)) r 3 (iN (W 0 9 + 1))) a n F := fun ha hb h z h1 h2 => by rw [up_a ha, up_a hb]; exact h z h1 h2
  have h1 : hr (mm_up (mm_up I (r + 6) z.toNat (iN v)) r 3 (iN (W 0 9 + 1))) (r + 6) 56 (ud (W 2) z v) := fun q q1 q2 => by rw [up_a (by omega)]; exact hr_up b2 hz.1 v q q1 q2
  refine ⟨by rw [up_a (by omega), up_a (by omega)]; exact h0, ?_, ?_, ?_, ?_⟩
  · rw [e 0 (by omega), e 1 (by omega), e 8 (by omega), e 2 (by omega), e 3 (by omega), e 4 (by omega), e 7 (by omega), e 5 (by omega), e 6 (by omega), ee]
    refine ⟨?_, ?_, ?_, ?_, ?_, ?_, ?_, ?_, ?_, ?_⟩
    all_goals (first | exact up_eq | (rw [up_k (by omega), up_a (by omega)]; assumption) | (rw [up_a (by omega), up_a (by omega)]; assumption))
  · rw [e 2 (by omega), e 3 (by omega), e 5 (by omega), er 1 (by omega) (by omega), er 3 (by omega) (by omega), er 4 (by omega) (by omega), er 5 (by omega) (by omega), er 6 (by omega) (by omega), er 7 (by omega) (by omega), e1]
    exact ⟨hh (by omega) (by omega) b1, h1, hh (by omega) (by omega) b3, hh (by omega) (by omega) b4, hh (by omega) (by omega) b5, hh (by omega) (by omega) b6, hh (by omega) (by omega) b7⟩
  · rw [e 2 (by omega)]; exact n1
  · rw [e 3 (by omega)]; exact n2
theorem rBd_iro (h : rBd W X NB NL I J) {z v : Int} (hz : 0 ≤ z ∧ z < 56) (hv : v = 1) : rBd (uw (uw W 2 z v) 0 9 (W 0 9 + 1)) X NB NL (mm_up (mm_up I 73 z.toNat (iN v)) 62 41 (iN (W 0 9 + 1))) J := by
  obtain ⟨⟨a1, a2, a3, a4, a5, a6, a7, a8, a9⟩, ⟨c1, c2, c3⟩, ⟨b1, b2, b3, b4, b5, b6⟩, d, n1, n2⟩ := h
  have e : ∀ j, ¬ j = 9 → (uw (uw W 2 z v) 0 9 (W 0 9 + 1)) 0 j = W 0 j := fun j hj => by rw [uw_ne (by omega), uw_ne (by omega)]
  have ee : (uw (uw W 2 z v) 0 9 (W 0 9 + 1)) 0 9 = W 0 9 + 1 := uw_eq
  have er : ∀ a, ¬ a = 0 → ¬ a = 2 → (uw (uw W 2 z v) 0 9 (W 0 9 + 1)) a = W a := fun a h1 h2 => by rw [uw_row h1, uw_row h2]
  have e1 : (uw (uw W 2 z v) 0 9 (W 0 9 + 1)) 2 = ud (W 2) z v := by rw [uw_row (by omega), uw_ud]
  have hh : ∀ {a : Nat} {n : Int} {F : Int → Int}, ¬ a = 62 → ¬ a = 73 → hr I a n F → hr (mm_up (mm_up I 73 z.toNat (iN v)) 62 41 (iN (W 0 9 + 1))) a n F := fun ha hb h z h1 h2 => by rw [up_a ha, up_a hb]; exact h z h1 h2
  have h1 : hr (mm_up (mm_up I 73 z.toNat (iN v)) 62 41 (iN (W 0 9 + 1))) 73 56 (fun q => if ud (W 2) z v q = 1 then 1 else -1) := fun q q1 q2 => by
    rw [up_a (by omega), hr_up b2 hz.1 v q q1 q2]
    unfold ud
    dsimp only
    by_cases e0 : q = z
    · rw [if_pos e0, if_pos e0, if_pos hv, hv]
    · rw [if_neg e0, if_neg e0]
  refine ⟨?_, ⟨by rw [up_k (by omega), up_a (by omega)]; exact c1, by rw [up_k (by omega), up_a (by omega)]; exact c2, by rw [up_k (by omega), up_a (by omega)]; exact c3⟩, ?_, ?_, ?_, ?_⟩
  · rw [e 0 (by omega), e 1 (by omega), e 8 (by omega), e 2 (by omega), e 3 (by omega), e 4 (by omega), e 7 (by omega), e 6 (by omega), ee]
    refine ⟨?_, ?_, ?_, ?_, ?_, ?_, ?_, ?_, ?_⟩
    all_goals (first | exact up_eq | (rw [up_k (by omega), up_a (by omega)]; assumption))
  · rw [e 2 (by omega), e 3 (by omega), er 1 (by omega) (by omega), er 3 (by omega) (by omega), er 4 (by omega) (by omega), er 5 (by omega) (by omega), er 6 (by omega) (by omega), e1]
    exact ⟨hh (by omega) (by omega) b1, h1, hh (by omega) (by omega) b3, hh (by omega) (by omega) b4, hh (by omega) (by omega) b5, hh (by omega) (by omega) b6⟩
  · rw [e 5 (by omega), er 7 (by omega) (by omega)]
    exact fun z => ⟨by rw [up_k (by omega), up_a (by omega)]; exact (d z).1, hh (by omega) (by omega) (d z).2.1, hh (by omega) (by omega) (d z).2.2⟩
  · rw [e 2 (by omega)]; exact n1
  · rw [e 3 (by omega)]; exact n2
theorem wfB_iro (h : wfB W X NB NL) {z v : Int} (hz : 0 ≤ z ∧ z < 56) (hv : v = 1) (hm : W 0 9 < 6) : wfB (uw (uw W 2 z v) 0 9 (W 0 9 + 1)) X NB NL := by
  obtain ⟨h1, h2, h3, h4, h5, h6, h7, h8, h9, h10⟩ := h
  have e : ∀ j, ¬ j = 9 → (uw (uw W 2 z v) 0 9 (W 0 9 + 1)) 0 j = W 0 j := fun j hj => by rw [uw_ne (by omega), uw_ne (by omega)]
  have ee : (uw (uw W 2 z v) 0 9 (W 0 9 + 1)) 0 9 = W 0 9 + 1 := uw_eq
  have er : ∀ a, ¬ a = 0 → ¬ a = 2 → (uw (uw W 2 z v) 0 9 (W 0 9 + 1)) a = W a := fun a h1 h2 => by rw [uw_row h1, uw_row h2]
  have e1 : (uw (uw W 2 z v) 0 9 (W 0 9 + 1)) 2 = ud (W 2) z v := by rw [uw_row (by omega), uw_ud]
  have ef7 : ∀ j : Int, W 7 j = (uw (uw W 2 z v) 0 9 (W 0 9 + 1)) 7 j := fun j => by rw [er 7 (by omega) (by omega)]
  have f7 := fdep_c (V := W) (V' := uw (uw W 2 z v) 0 9 (W 0 9 + 1)) (z := (W 0 5).toNat) (fun j _ => ef7 j)
  refine ⟨?_, ?_, ?_, ?_, ?_, ?_, ?_, ?_, ?_, ?_⟩
  · rw [e 0 (by omega), e 1 (by omega), e 8 (by omega), e 2 (by omega), e 3 (by omega), e 4 (by omega), e 7 (by omega), e 5 (by omega), e 6 (by omega), ee]; omega
  · rw [er 1 (by omega) (by omega)]; exact h2
  · rw [e1]
    intro q q1 q2
    unfold ud
    by_cases e0 : q = z
    · rw [if_pos e0]; exact Or.inr hv
    · rw [if_neg e0]; exact h3 q q1 q2
  · rw [e 0 (by omega), e 2 (by omega), er 3 (by omega) (by omega), er 4 (by omega) (by omega), er 5 (by omega) (by omega)]; exact h4
  · rw [e 3 (by omega), er 6 (by omega) (by omega)]; exact h5
  · rw [e 5 (by omega)]; exact fun q hq => okz_c ef7 (h6 q hq)
  · rw [e 5 (by omega), e 6 (by omega), ← f7]; exact h7
  · rw [e 2 (by omega)]; exact h8
  · rw [e 2 (by omega)]; exact h9
  · rw [e 3 (by omega)]; exact h10
/-- a column, a row, at which none is told -/
theorem LN_iro0 (hr0 : r = 3 ∨ r = 19) (hw : wfB W X NB NL) (hX : ¬ X = iN 0) (hm : W 0 9 < 6) {v : Int} (hv : v = 1) (hT : TT B m p I J I' J') (hc : cBd W X NB NL r I J) (hR : rBd W X NB NL I' J') (f1 : I 16 11 = iN 0) (f2 : I 16 12 = iN (-1)) (f3 : I' 62 3 = iN (-1)) {n : Nat} (hn : 1700 ≤ n) :
    LN B m r p I J I' J' ((fX4_passNumber n 0 ((I r 0) - 1) I J).bind fun o1544 => (if o1544.1 = (-1) then some (0, o1544.2.1, o1544.2.2) else (fX4_isNumber 1 ((o1544.2.1 r 1) - 1) o1544.2.1).bind fun o1546 => (if o1546.1 = 0 then some (0, o1546.2, o1544.2.2) else (if (fX5_ironAt o1544.1 (o1546.2 16 6) r o1546.2) = 0 then (fX4_advance n (fX5_addIron o1544.1 (o1546.2 16 6) r o1546.2) o1544.2.2).bind fun o1551 => (fX4_passEndOfLine n o1551.1 o1551.2).bind fun o1552 => (if o1552.1 = 0 ∨ o1552.1 = 1 then some (o1552.1, o1552.2.1, o1552.2.2) else none) else (if (fX4_refuse 3 o1546.2).1 = 0 ∨ (fX4_refuse 3 o1546.2).1 = 1 then some ((fX4_refuse 3 o1546.2).1, (fX4_refuse 3 o1546.2).2, o1544.2.2) else none)))))
      ((fX12_readCell_73 n 1 ((I' 62 39) - 1) I' J').bind fun o388 => (if 0 < (o388.2.1 62 2) then some (o388.2.1, o388.2.2) else (if o388.1 < 0 ∨ 56 ≤ o388.1.toNatClampNeg then none else some ((mm_up (mm_up o388.2.1 73 o388.1.toNatClampNeg 1) 62 41 ((o388.2.1 62 41) + 1)), o388.2.2))).bind fun o446 => fX12_readLine_J235 n o446.1 o446.2) := by
  have hb := hw.1
  have e0 : I r 0 = iN (W 0 0) := hc.2.1.1
  have e38 : I' 62 38 = iN (W 0 0) := hR.1.1
  have e39 : I' 62 39 = iN (W 0 1) := hR.1.2.1
  have s0 : ∀ z : Int, (iN z - 1 : Int32) = iN (z - 1) := fun z => iN_sub z 1
  rw [e0, e39, s0, s0, fX12_readCell_73, e38, s0]
  /- a fault: the reference is through -/
  have tail : ∀ (x : Int32) (M : (Nat → Nat → Int32)) (L : mJ), hasF M → ((some (x, M, L) : Option (Int32 × (Nat → Nat → Int32) × mJ)).bind fun o388 => (if 0 < (o388.2.1 62 2) then some (o388.2.1, o388.2.2) else (if o388.1 < 0 ∨ 56 ≤ o388.1.toNatClampNeg then none else some ((mm_up (mm_up o388.2.1 73 o388.1.toNatClampNeg 1) 62 41 ((o388.2.1 62 41) + 1)), o388.2.2))).bind fun o446 => fX12_readLine_J235 n o446.1 o446.2) = fX12_readLine_J235 n M L := by
    intro x M L hf
    rw [Option.bind_some]
    dsimp only
    rw [ite_p (hasF_no hf).2, Option.bind_some]
  rcases bt_num hT (lo := 0) (hi := W 0 0 - 1) (by omega) (by omega) hn with ⟨I1, x, I1', b1, b2, b3, b4, b5⟩ | ⟨c, I1, J1, I1', J1', hcv, b1, b2, b3, b4, b5, b6, b7, b8⟩
  · have b1 : fX4_passNumber n 0 (iN (W 0 0 - 1)) I J = some (iN (-1), I1, J) := b1
    have b2 : fX12_toldNumber n 0 (iN (W 0 0 - 1)) I' J' = some (x, I1', J') := b2
    have hf := FF_has b3
    rw [b1, b2, Option.bind_some, Option.bind_some]
    dsimp only
    rw [ite_p (show iN (-1) = (-1 : Int32) from rfl), ite_n (hasF_no hf).1, fX12_readCell_73_J64, num_F hf, Option.bind_some, tail _ _ _ hf]
    exact LN_F b3 (lC_f b4) lCJ_refl (lR_f b5) lRJ_refl
  · have b1 : fX4_passNumber n 0 (iN (W 0 0 - 1)) I J = some (iN c, I1, J1) := b1
    have b2 : fX12_toldNumber n 0 (iN (W 0 0 - 1)) I' J' = some (iN c, I1', J1') := b2
    have hc1 := cBd_k hr0 hc b5 b6
    have hR1 := rBd_r hR b7 b8
    have e1 : I1 r 1 = iN (W 0 1) := hc1.2.1.2.1
    rw [b1, b2, Option.bind_some, Option.bind_some]
    dsimp only
    rw [ite_n (show ¬ iN c = (-1 : Int32) by show ¬ iN c = iN (-1); rw [iN_eq (by omega) (by omega) (by omega) (by omega)]; omega), e1, s0, ite_p (show I1' 62 2 = (0 : Int32) from b3.2.2)]
    have r2 : (I1' 62 6 = (2 : Int32)) = (tK B m (tN B m p) = 2) := rf_num b3.2.1
    rcases bt_isn b3 (lo := 1) (hi := W 0 1 - 1) (by omega) (by omega) hn with ⟨I2, x, I2', d1, d2, d3, d4, d5, d6⟩ | ⟨k2, v1, v2, d1, I2', J2', d2, d3⟩
    · have d1 : fX4_isNumber 1 (iN (W 0 1 - 1)) I1 = some (iN 0, I2) := d1
      have d2 : fX12_toldNumber n 1 (iN (W 0 1 - 1)) I1' J1' = some (x, I2', J1') := d2
      rw [d1, Option.bind_some]
      dsimp only
      rw [ite_p (show iN 0 = (0 : Int32) from rfl)]
      have hj : fX12_readCell_73_J64 n 1 (iN (W 0 1 - 1)) (iN c) I1' J1' = some ((8 * x) + iN c, I2', J1') := by rw [fX12_readCell_73_J64, d2, Option.bind_some]
      have hall : (if (I1' 62 6) = 2 then (if (I1' 62 8) < 1 then (fX12_readCell_73_J64 n 1 (iN (W 0 1 - 1)) (iN c) I1' J1') else (if (iN (W 0 1 - 1)) < (I1' 62 8) then (fX12_readCell_73_J64 n 1 (iN (W 0 1 - 1)) (iN c) I1' J1') else (if ((8 * (I1' 62 8)) + (iN c)) < 0 ∨ 56 ≤ ((8 * (I1' 62 8)) + (iN c)).toNatClampNeg then none else (if (I1' 73 ((8 * (I1' 62 8)) + (iN c)).toNatClampNeg) < 0 then (fX12_readCell_73_J64 n 1 (iN (W 0 1 - 1)) (iN c) I1' J1') else (fX12_readCell_73_J64 n 1 (iN (W 0 1 - 1)) (iN c) (fX12_wrong 3 I1') J1'))))) else (fX12_readCell_73_J64 n 1 (iN (W 0 1 - 1)) (iN c) I1' J1')) = some ((8 * x) + iN c, I2', J1') := by
        by_cases k2 : tK B m (tN B m p) = 2
        · have e8 : I1' 62 8 = iN (tV B m (tN B m p)) := b3.2.1.2.2.2.2.2.1 k2
          have hv := tV_in k2
          rw [ite_p (r2.mpr k2), e8]
          by_cases h1 : tV B m (tN B m p) < 1
          · rw [ite_p (show iN (tV B m (tN B m p)) < (1 : Int32) by show iN _ < iN 1; rw [iN_lt (by omega) (by omega) (by omega) (by omega)]; exact h1), hj]
          · have h2 : W 0 1 - 1 < tV B m (tN B m p) := by
              by_cases h3 : W 0 1 - 1 < tV B m (tN B m p)
              · exact h3
              · exact absurd ⟨k2, by omega, by omega⟩ d6
            rw [ite_n (show ¬ iN (tV B m (tN B m p)) < (1 : Int32) by show ¬ iN _ < iN 1; rw [iN_lt (by omega) (by omega) (by omega) (by omega)]; exact h1), ite_p (show iN (W 0 1 - 1) < iN (tV B m (tN B m p)) by rw [iN_lt (by omega) (by omega) (by omega) (by omega)]; exact h2), hj]
        · rw [ite_n (fun z => k2 (r2.mp z)), hj]
      rw [hall, tail _ _ _ (FF_has d3)]
      exact LN_F d3 (lC_trans (lC_k b5) (lC_f d4)) (lCJ_k b6) (lR_trans (lR_r b7) (lR_f d5)) (lRJ_r b8)
    · have d1 : fX4_isNumber 1 (iN (W 0 1 - 1)) I1 = some (iN 1, I1) := d1
      have e6 : I1 16 6 = iN (tV B m (tN B m p)) := b3.1.2.2.2.2.2.2.1 k2
      have e8 : I1' 62 8 = iN (tV B m (tN B m p)) := b3.2.1.2.2.2.2.2.1 k2
      rw [d1, Option.bind_some]
      dsimp only
      rw [ite_n (show ¬ iN 1 = (0 : Int32) from n10), ite_p (r2.mpr k2)]
      simp only [e6, e8]
      rw [ite_n (show ¬ iN (tV B m (tN B m p)) < (1 : Int32) by show ¬ iN _ < iN 1; rw [iN_lt (by omega) (by omega) (by omega) (by omega)]; omega), ite_n (show ¬ iN (W 0 1 - 1) < iN (tV B m (tN B m p)) by rw [iN_lt (by omega) (by omega) (by omega) (by omega)]; omega)]
      have e8c : ((8 : Int32) * iN (tV B m (tN B m p))) + iN c = iN (8 * tV B m (tN B m p) + c) := by
        show iN 8 * iN _ + iN c = _
        rw [iN_mul, iN_add]
      obtain ⟨g1, g2, g3⟩ := cl_cel hc1 hw (c := c) (w := tV B m (tN B m p)) (by omega) (by omega)
      have eg : ¬ (iN (8 * tV B m (tN B m p) + c) < (0 : Int32) ∨ 56 ≤ (iN (8 * tV B m (tN B m p) + c)).toNatClampNeg) := by
        show ¬ (iN _ < iN 0 ∨ _)
        rw [iN_lt (by omega) (by omega) (by omega) (by omega), iN_tn (by omega) (by omega)]; omega
      rw [e8c, ite_n eg, iN_tn (by omega) (by omega)]
      have hrow : I1' 73 (8 * tV B m (tN B m p) + c).toNat = iN (if W 2 (8 * tV B m (tN B m p) + c) = 1 then 1 else -1) := hR1.2.2.1.2.1 _ g3.1 g3.2
      have crow : I1 (r + 6) (8 * tV B m (tN B m p) + c).toNat = iN (W 2 (8 * tV B m (tN B m p) + c)) := hc1.2.2.1.2.1 _ g3.1 g3.2
      have hbd := hw.2.2.1 (8 * tV B m (tN B m p) + c) g3.1 g3.2
      have hhas : (fX5_ironAt (iN c) (iN (tV B m (tN B m p))) r I1 = 0) = (W 2 (8 * tV B m (tN B m p) + c) = 0) := by
        unfold fX5_ironAt
        rw [g1, ite_n (show ¬ iN 1 = (0 : Int32) from n10), g2, iN_pick (by omega) (by omega) (by omega), crow]
        by_cases hfree : W 2 (8 * tV B m (tN B m p) + c) = 0
        · rw [ite_p (show iN (W 2 (8 * tV B m (tN B m p) + c)) = (0 : Int32) by rw [hfree]; rfl)]
          exact propext ⟨fun _ => hfree, fun _ => rfl⟩
        · rw [ite_n (show ¬ iN (W 2 (8 * tV B m (tN B m p) + c)) = (0 : Int32) by show ¬ iN _ = iN (0); rw [iN_eq (by omega) (by omega) (by omega) (by omega)]; exact hfree)]
          exact propext ⟨fun h => absurd h (by decide), fun h => absurd h hfree⟩
      by_cases hfree : W 2 (8 * tV B m (tN B m p) + c) = 0
      · rw [ite_p (hhas.mpr hfree), hrow, ite_p (show iN (if W 2 (8 * tV B m (tN B m p) + c) = 1 then 1 else -1) < (0 : Int32) by rw [hfree]; decide)]
        obtain ⟨I3, J3, I3', J3', a1, a2, a3, a4, a5, a6, a7⟩ := bt_adv b3 (by omega) hn
        rw [d3] at a2
        have a2 := Option.some.inj a2
        cases a2
        have d2 : fX12_toldNumber n 1 (iN (W 0 1 - 1)) I1' J1' = some (iN (tV B m (tN B m p)), I2', J2') := d2
        rw [fX12_readCell_73_J64, d2, Option.bind_some, Option.bind_some]
        dsimp only
        rw [e8c, ite_n (show ¬ (0 : Int32) < I2' 62 2 by rw [a3.2.2]; decide), ite_n eg, iN_tn (by omega) (by omega), Option.bind_some]
        have hadd : fX5_addIron (iN c) (iN (tV B m (tN B m p))) r I1 = mm_up (mm_up I1 (r + 6) (8 * tV B m (tN B m p) + c).toNat (iN 1)) r 3 (iN (W 0 9 + 1)) := by
          unfold fX5_addIron
          rw [g2, iN_put (by omega) (by omega) (by omega), up_a (by omega), hc1.2.1.2.2.2.1]
          congr 1
          exact iN_add _ 1
        rw [hadd]
        have hT2 : TT B m (tN B m p) (mm_up (mm_up I1 (r + 6) (8 * tV B m (tN B m p) + c).toNat (iN 1)) r 3 (iN (W 0 9 + 1))) J1 I1' J1' := TT_up b3 hr0 (fun a q h1 _ => by rw [up_o (by omega), up_o (by omega)]) (fun a q h1 h2 => rfl)
        obtain ⟨I4, J4, I4', J4', i1, i2, i3, i4, i5, i6, i7⟩ := bt_adv hT2 (by omega) hn
        rw [d3] at i2
        have i2 := Option.some.inj i2
        cases i2
        rw [i1, Option.bind_some]
        dsimp only
        have hR2 := rBd_r hR1 a6 a7
        have e40 : I2' 62 41 = iN (W 0 9) := hR2.1.2.2.2.1
        have e40' : (I2' 62 41 + 1 : Int32) = iN (W 0 9 + 1) := by rw [e40]; exact iN_add _ 1
        rw [e40']
        have hT4 : TT B m (tN B m (tN B m p)) I4 J4 (mm_up (mm_up I2' 73 (8 * tV B m (tN B m p) + c).toNat 1) 62 41 (iN (W 0 9 + 1))) J2' := TT_up (r := r) i3 hr0 (fun a q h1 _ => rfl) (fun a q h1 h2 => by rw [up_o (by omega), up_o (by omega)])
        have := LN_end hr0 (wfB_iro hw (z := 8 * tV B m (tN B m p) + c) (v := 1) g3 rfl hm) hX hT4 (cBd_k hr0 (cBd_iro hr0 hc1 (z := 8 * tV B m (tN B m p) + c) (v := 1) g3) i4 i5) (rBd_iro hR2 (z := 8 * tV B m (tN B m p) + c) (v := 1) g3 rfl) (by rw [i4 _ _ (by omega), up_a (by omega), up_a (by omega), b5 _ _ (by omega)]; exact f1) (by rw [i4 _ _ (by omega), up_a (by omega), up_a (by omega), b5 _ _ (by omega)]; exact f2) (by rw [up_k (by omega), up_a (by omega), a6 _ _ (by omega), b7 _ _ (by omega)]; exact f3) hn
        have hlt := ((tN_in (B := B) b3.1.1).2.2 (by omega)).2.2
        exact LN_w (LN_x this (by omega) (lC_trans (lC_k b5) (lC_trans (fun a q _ h2 => by rw [up_o (by omega), up_o (by omega)]) (lC_k i4))) (lCJ_trans (lCJ_k b6) (lCJ_k i5)) (lR_trans (lR_r b7) (lR_trans (lR_r a6) (lR_trans (lR_row (by omega)) (lR_up (by omega))))) (lRJ_trans (lRJ_r b8) (lRJ_r a7)))
      · have hneg : ¬ iN (if W 2 (8 * tV B m (tN B m p) + c) = 1 then 1 else -1) < (0 : Int32) := by
          show ¬ iN _ < iN 0
          have : W 2 (8 * tV B m (tN B m p) + c) = 1 := by
            rcases hbd with h | h
            · exact absurd h hfree
            · exact h
          rw [if_pos this]; decide
        rw [ite_n (fun z => hfree (hhas.mp z)), hrow, ite_n hneg]
        obtain ⟨I3, I3', i1, i2, i3, i4, i5⟩ := bt_ref b3 (j := 3) (by omega)
        have i1 : fX4_refuse 3 I1 = (iN 0, I3) := i1
        have i2 : fX12_wrong 3 I1' = I3' := i2
        rw [i1, i2, fX12_readCell_73_J64, num_F (FF_has i3), Option.bind_some, tail _ _ _ (FF_has i3), ite_p (show iN 0 = (0 : Int32) ∨ iN 0 = 1 from Or.inl rfl)]
        exact LN_F i3 (lC_trans (lC_k b5) (lC_f i4)) (lCJ_k b6) (lR_trans (lR_r b7) (lR_f i5)) (lRJ_r b8)
end LNC
