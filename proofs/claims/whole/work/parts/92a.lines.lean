/-! LINES: both readers side by side, piece by piece. -/
def TT (B : Nat → Int) (m p : Nat) (I : (Nat → Nat → Int32)) (J : mJ) (I' : (Nat → Nat → Int32)) (J' : mJ) : Prop := cT B m p I J ∧ rT B m p I' J' ∧ I' 62 2 = iN 0
def FF (I I' : (Nat → Nat → Int32)) : Prop := ∃ k pl : Int, (1 ≤ k ∧ k ≤ 4) ∧ I 16 11 = iN k ∧ I 16 12 = iN pl ∧ I' 62 2 = iN k ∧ I' 62 3 = iN pl
def xf2 (I I' : (Nat → Nat → Int32)) : Prop := ∀ a k, ¬ (a = 16 ∧ (k = 11 ∨ k = 12)) → I' a k = I a k
def rf2 (I I' : (Nat → Nat → Int32)) : Prop := ∀ a k, ¬ (a = 62 ∧ (k = 2 ∨ k = 3)) → I' a k = I a k
section LPR
variable {B : Nat → Int} {m p : Nat} {I : (Nat → Nat → Int32)} {J : mJ} {I' : (Nat → Nat → Int32)} {J' : mJ}
theorem FF_mk {q : Nat} {j : Int} {I1 I1' : (Nat → Nat → Int32)} (h : cFl B m q j I1) (h' : rFl B m q j I1') (hj : 1 ≤ j ∧ j ≤ 4) : FF I1 I1' := by
  unfold cFl at h
  unfold rFl at h'
  by_cases e : tK B m q = 4
  · rw [if_pos e] at h h'; exact ⟨1, _, by omega, h.1, h.2, h'.1, h'.2⟩
  · rw [if_neg e] at h h'; exact ⟨j, _, hj, h.1, h.2, h'.1, h'.2⟩
theorem FF_has {I1 I1' : (Nat → Nat → Int32)} (h : FF I1 I1') : hasF I1' := by
  obtain ⟨k, pl, h1, -, -, h2, -⟩ := h
  exact ⟨k, h1.1, h1.2, h2⟩
/-- both refuse here -/
theorem bt_ref (h : TT B m p I J I' J') {j : Int} (hj : 1 ≤ j ∧ j ≤ 4) : ∃ I1 I1', fX4_refuse (iN j) I = (iN 0, I1) ∧ fX12_wrong (iN j) I' = I1' ∧ FF I1 I1' ∧ xf2 I I1 ∧ rf2 I' I1' := by
  obtain ⟨I1, e, h1, h2⟩ := cl_ref h.1 j
  obtain ⟨w1, w2⟩ := rf_wrong h.2.1 h.2.2 j
  exact ⟨I1, _, e, rfl, FF_mk h1 w1 hj, h2, w2⟩
theorem cl_num2 (h : cT B m p I J) : (I 16 5 = iN 2) = (tK B m p = 2) := by
  have hK : tK B m p = 0 ∨ tK B m p = 1 ∨ tK B m p = 2 ∨ tK B m p = 3 ∨ tK B m p = 4 := tKq_in
  rw [h.2.2.2.2.1, iN_eq (by omega) (by omega) (by omega) (by omega)]
/-- both pass on -/
theorem bt_adv (h : TT B m p I J I' J') (hk : ¬ tK B m p = 4) {n : Nat} (hn : 1700 ≤ n) : ∃ I1 J1 I1' J1', fX4_advance n I J = some (I1, J1) ∧ fX12_token n I' J' = some (I1', J1') ∧ TT B m (tN B m p) I1 J1 I1' J1' ∧ xk I I1 ∧ xJ J J1 ∧ xr I' I1' ∧ xJr J' J1' := by
  obtain ⟨I1, J1, a1, a2, a3, a4⟩ := cl_next_t h.1 hn
  obtain ⟨I2, J2, b1, b2, b3, b4⟩ := rf_next_t h.2.1 hk hn
  exact ⟨I1, J1, I2, J2, a1, b1, ⟨a2, b2, by rw [b3 _ _ (by omega)]; exact h.2.2⟩, a3, a4, b3, b4⟩
/-- is it a number of these, without passing it -/
theorem bt_isn (h : TT B m p I J I' J') {lo hi : Int} (hl : 0 ≤ lo ∧ lo ≤ 10000) (hh : -10 ≤ hi ∧ hi ≤ 10000) {n : Nat} (hn : 1700 ≤ n) :
    (∃ I1 v I1', fX4_isNumber (iN lo) (iN hi) I = some (iN 0, I1) ∧ fX12_toldNumber n (iN lo) (iN hi) I' J' = some (v, I1', J') ∧ FF I1 I1' ∧ xf2 I I1 ∧ rf2 I' I1' ∧ ¬ (tK B m p = 2 ∧ lo ≤ tV B m p ∧ tV B m p ≤ hi)) ∨
    (tK B m p = 2 ∧ lo ≤ tV B m p ∧ tV B m p ≤ hi ∧ fX4_isNumber (iN lo) (iN hi) I = some (iN 1, I) ∧ ∃ I1' J1', fX12_toldNumber n (iN lo) (iN hi) I' J' = some (iN (tV B m p), I1', J1') ∧ fX12_token n I' J' = some (I1', J1')) := by
  have f0 : ¬ (0 : Int32) < I' 62 2 := by rw [h.2.2]; decide
  have hfz : I' 62 2 = (0 : Int32) := h.2.2
  have c2 : (I 16 5 = (2 : Int32)) = (tK B m p = 2) := cl_num2 h.1
  have r2 : (I' 62 6 = (2 : Int32)) = (tK B m p = 2) := rf_num h.2.1
  rw [fX4_isNumber, fX12_toldNumber, ite_n f0]
  have bad : ∀ j : Int, 1 ≤ j ∧ j ≤ 4 → ∃ I1 v I1', fX4_refuse (iN j) I = (iN 0, I1) ∧ fX12_toldNumber_J46 n (fX12_wrong (iN j) I') J' = some (v, I1', J') ∧ FF I1 I1' ∧ xf2 I I1 ∧ rf2 I' I1' := by
    intro j hj
    obtain ⟨I1, I1', b1, b2, b3, b4, b5⟩ := bt_ref h hj
    refine ⟨I1, I1' 62 8, I1', b1, ?_, b3, b4, b5⟩
    rw [b2, fX12_toldNumber_J46, ite_n (hasF_no (FF_has b3)).1]
  by_cases k2 : tK B m p = 2
  · have e6 : I 16 6 = iN (tV B m p) := h.1.2.2.2.2.2.2.1 k2
    have e8 : I' 62 8 = iN (tV B m p) := h.2.1.2.2.2.2.2.1 k2
    have hv := tV_in k2
    rw [ite_p (c2.mpr k2), ite_p (r2.mpr k2), e6, e8]
    by_cases h1 : tV B m p < lo
    · have q1 : iN (tV B m p) < iN lo := by rw [iN_lt (by omega) (by omega) (by omega) (by omega)]; exact h1
      rw [ite_p q1, ite_p q1, fX12_toldNumber_J41]
      obtain ⟨I1, v, I1', b1, b2, b3, b4, b5⟩ := bad 4 (by omega)
      have b1 : fX4_refuse 4 I = (iN 0, I1) := b1
      left
      rw [b1]
      exact ⟨I1, v, I1', rfl, b2, b3, b4, b5, by omega⟩
    · have q1 : ¬ iN (tV B m p) < iN lo := by rw [iN_lt (by omega) (by omega) (by omega) (by omega)]; exact h1
      rw [ite_n q1, ite_n q1]
      by_cases h2 : hi < tV B m p
      · have q2 : iN hi < iN (tV B m p) := by rw [iN_lt (by omega) (by omega) (by omega) (by omega)]; exact h2
        rw [ite_p q2, ite_p q2, fX12_toldNumber_J41]
        obtain ⟨I1, v, I1', b1, b2, b3, b4, b5⟩ := bad 4 (by omega)
        have b1 : fX4_refuse 4 I = (iN 0, I1) := b1
        left
        rw [b1]
        exact ⟨I1, v, I1', rfl, b2, b3, b4, b5, by omega⟩
      · have q2 : ¬ iN hi < iN (tV B m p) := by rw [iN_lt (by omega) (by omega) (by omega) (by omega)]; exact h2
        rw [ite_n q2, ite_n q2]
        right
        obtain ⟨I2, J2, g1, g2, g3, g4⟩ := rf_next_t h.2.1 (by omega) hn
        refine ⟨k2, by omega, by omega, rfl, I2, J2, ?_, g1⟩
        rw [fX12_toldNumber_J46, ite_p hfz, g1, Option.bind_some, e8]
  · left
    rw [ite_n (fun z => k2 (c2.mp z)), ite_n (fun z => k2 (r2.mp z))]
    obtain ⟨I1, v, I1', b1, b2, b3, b4, b5⟩ := bad 2 (by omega)
    have b1 : fX4_refuse 2 I = (iN 0, I1) := b1
    rw [b1]
    exact ⟨I1, v, I1', if_pos (Or.inl rfl), b2, b3, b4, b5, fun z => k2 z.1⟩
/-- a number is passed -/
theorem bt_num (h : TT B m p I J I' J') {lo hi : Int} (hl : 0 ≤ lo ∧ lo ≤ 10000) (hh : -10 ≤ hi ∧ hi ≤ 10000) {n : Nat} (hn : 1700 ≤ n) :
    (∃ I1 v I1', fX4_passNumber n (iN lo) (iN hi) I J = some (iN (-1), I1, J) ∧ fX12_toldNumber n (iN lo) (iN hi) I' J' = some (v, I1', J') ∧ FF I1 I1' ∧ xf2 I I1 ∧ rf2 I' I1') ∨
    (∃ v I1 J1 I1' J1', (lo ≤ v ∧ v ≤ hi) ∧ fX4_passNumber n (iN lo) (iN hi) I J = some (iN v, I1, J1) ∧ fX12_toldNumber n (iN lo) (iN hi) I' J' = some (iN v, I1', J1') ∧ TT B m (tN B m p) I1 J1 I1' J1' ∧ p < tN B m p ∧ xk I I1 ∧ xJ J J1 ∧ xr I' I1' ∧ xJr J' J1') := by
  rcases bt_isn h hl hh hn with ⟨I1, v, I1', b1, b2, b3, b4, b5, -⟩ | ⟨k2, v1, v2, b1, I1', J1', b2, b3⟩
  · left
    refine ⟨I1, v, I1', ?_, b2, b3, b4, b5⟩
    rw [fX4_passNumber, b1, Option.bind_some]
    rfl
  · right
    obtain ⟨I2, J2, I2', J2', a1, a2, a3, a4, a5, a6, a7⟩ := bt_adv h (by omega) hn
    rw [b3] at a2
    have a2 := Option.some.inj a2
    cases a2
    have hv := tV_in k2
    have e6 : I 16 6 = iN (tV B m p) := h.1.2.2.2.2.2.2.1 k2
    refine ⟨tV B m p, I2, J2, I1', J1', ⟨v1, v2⟩, ?_, b2, a3, ((tN_in (B := B) h.1.1).2.2 (by omega)).2.2, a4, a5, a6, a7⟩
    rw [fX4_passNumber, b1, Option.bind_some]
    dsimp only
    rw [ite_n (show ¬ iN 1 = (0 : Int32) from n10), a1, Option.bind_some, e6]
/-- a word is passed -/
theorem bt_word (h : TT B m p I J I' J') {k : Nat} (hk : k < 19) {x : Int64} (hx : x = iL (c256 (ownI k))) {n : Nat} (hn : 1700 ≤ n) :
    (∃ I1 I1', fX4_passWord n (iN k) I J = some (iN 0, I1, J) ∧ fX12_want n x I' J' = some (I1', J') ∧ FF I1 I1' ∧ xf2 I I1 ∧ rf2 I' I1') ∨
    (∃ I1 J1 I1' J1', fX4_passWord n (iN k) I J = some (iN 1, I1, J1) ∧ fX12_want n x I' J' = some (I1', J1') ∧ TT B m (tN B m p) I1 J1 I1' J1' ∧ p < tN B m p ∧ xk I I1 ∧ xJ J J1 ∧ xr I' I1' ∧ xJr J' J1') := by
  have f0 : ¬ (0 : Int32) < I' 62 2 := by rw [h.2.2]; decide
  have cw1 := cl_isw h.1 (k := k) (by omega)
  have rw1 := rf_isw h.2.1 hk hx
  rw [fX4_passWord, fX12_want, ite_n f0, cw1, rw1]
  by_cases e : tO B m p = k
  · right
    have hK := ((tO_word (by omega)).mp e).1
    rw [if_pos e, ite_n (show ¬ iN 1 = (0 : Int32) from n10), ite_n (show ¬ iN 1 = (0 : Int32) from n10)]
    obtain ⟨I2, J2, I2', J2', a1, a2, a3, a4, a5, a6, a7⟩ := bt_adv h (by omega) hn
    exact ⟨I2, J2, I2', J2', by rw [a1, Option.bind_some]; rfl, by rw [a2, Option.bind_some], a3, ((tN_in (B := B) h.1.1).2.2 (by omega)).2.2, a4, a5, a6, a7⟩
  · left
    rw [if_neg e, ite_p (show iN 0 = (0 : Int32) from rfl), ite_p (show iN 0 = (0 : Int32) from rfl)]
    obtain ⟨I1, I1', b1, b2, b3, b4, b5⟩ := bt_ref h (j := 2) (by omega)
    have b1 : fX4_refuse 2 I = (iN 0, I1) := b1
    have b2 : fX12_wrong 2 I' = I1' := b2
    rw [b1, b2]
    exact ⟨I1, I1', if_pos (Or.inl rfl), rfl, b3, b4, b5⟩
theorem want_F (hf : hasF I) {n : Nat} {x : Int64} : fX12_want n x I J = some (I, J) := by rw [fX12_want, ite_p (hasF_no hf).2]
theorem num_F (hf : hasF I) {n : Nat} {x y : Int32} : fX12_toldNumber n x y I J = some (0, I, J) := by rw [fX12_toldNumber, ite_p (hasF_no hf).2]
theorem told_F (hf : hasF I) {n : Nat} {x : Int64} {y z : Int32} : fX12_told n x y z I J = some (0, I, J) := by rw [fX12_told, want_F hf, Option.bind_some, num_F hf, Option.bind_some]
end LPR
