/-! THE FORMULA as the reference reads it: words, signs, units. -/
section RWD
variable {B : Nat → Int} {m p : Nat} {I : (Nat → Nat → Int32)} {J : mJ}
theorem tS_sp (hI : rb B m I) (hp : p ≤ m) : (tS B m p = 1 ↔ tK B m p = 1) ∧ (tS B m p = 2 ↔ tK B m p = 2) ∧ (tS B m p = 3 ↔ tK B m p = 4) ∧ (tS B m p = 0 ↔ tK B m p = 0) ∧ (∀ c, 37 ≤ c → (tS B m p = c ↔ tK B m p = 3 ∧ B (tP B m p) = c)) ∧ 0 ≤ tS B m p ∧ tS B m p < 256 := by
  have hK : tK B m p = 0 ∨ tK B m p = 1 ∨ tK B m p = 2 ∨ tK B m p = 3 ∨ tK B m p = 4 := tKq_in
  have hs : tK B m p = 3 → 37 ≤ B (tP B m p) ∧ B (tP B m p) < 256 := by
    intro h
    have hlt := ((tN_in (B := B) hp).2.2 (by omega)).1
    have hb := hI.2.2 _ hlt
    refine ⟨?_, hb.2.1⟩
    unfold tK tKq at h
    rw [if_neg (by omega)] at h
    split at h
    · split at h <;> omega
    · split at h
      · split at h
        · omega
        · split at h <;> omega
      · split at h
        · next hh =>
          unfold tsig at hh
          simp at hh
          omega
        · omega
  unfold tS
  rcases hK with h | h | h | h | h
  · rw [if_neg (by omega), if_neg (by omega), h]; refine ⟨by omega, by omega, by omega, by omega, fun c hc => by omega, by omega, by omega⟩
  · rw [if_neg (by omega), if_neg (by omega), h]; refine ⟨by omega, by omega, by omega, by omega, fun c hc => by omega, by omega, by omega⟩
  · rw [if_neg (by omega), if_neg (by omega), h]; refine ⟨by omega, by omega, by omega, by omega, fun c hc => by omega, by omega, by omega⟩
  · have := hs h
    rw [if_neg (by omega), if_pos h, h]; refine ⟨by omega, by omega, by omega, by omega, fun c hc => by omega, by omega, by omega⟩
  · rw [if_pos h, h]; refine ⟨by omega, by omega, by omega, by omega, fun c hc => by omega, by omega, by omega⟩
theorem rf_lg (h : rT B m p I J) (hk : tK B m p = 1) {k : Nat} (hk2 : k < 19) : (lg_cmp (J 62 9) (iL (c256 (ownI k))) = iN 0) = (tO B m p = k) := by
  have hw := tW_wrd hk
  rw [lgc, h.2.2.2.2.2.2 hk]
  have : tO B m p = ownF (tW B m p) := by unfold tO; rw [if_pos hk]
  rw [this]
  apply propext
  rw [ownF_eq hk2]
  constructor
  · intro e
    have h1 := c256_in hw
    have h2 := c256_in (ownI_wrd ⟨k, hk2⟩)
    exact c256_inj hw (ownI_wrd ⟨k, hk2⟩) (iL_inj h1.1 h1.2 h2.1 h2.2 e)
  · intro e; rw [e]
theorem rf_isw (h : rT B m p I J) {k : Nat} (hk2 : k < 19) {x : Int64} (hx : x = iL (c256 (ownI k))) : fX12_isWord x I J = if tO B m p = k then iN 1 else iN 0 := by
  obtain ⟨h1, h2, h3, h4, -⟩ := id h
  obtain ⟨s1, -, -, -, -, s6, s7⟩ := tS_sp h2 h1
  rw [fX12_isWord, h4, hx]
  simp only [iN_lit]
  by_cases hk : tK B m p = 1
  · rw [ite_p (by rw [s1.mpr hk])]
    simp only [rf_lg h hk hk2]
  · rw [ite_n (by rw [iN_eq (by omega) (by omega) (by omega) (by omega)]; exact fun z => hk (s1.mp z)), if_neg]
    intro e
    exact hk ((tO_word (by omega)).mp e).1
theorem rf_sort (h : rT B m p I J) {c k : Int} (hc : (c = 60 ∧ k = -10) ∨ (c = 62 ∧ k = -11) ∨ (c = 61 ∧ k = -12) ∨ (c = 43 ∧ k = -13) ∨ (c = 45 ∧ k = -14) ∨ (c = 42 ∧ k = -15) ∨ (c = 47 ∧ k = -16) ∨ (c = 37 ∧ k = -17) ∨ (c = 40 ∧ k = 100000) ∨ (c = 41 ∧ k = 100001)) : (I 62 6 = iN c) = (ft B m p = k) := by
  obtain ⟨h1, h2, h3, h4, -⟩ := id h
  obtain ⟨-, -, -, -, s5, s6, s7⟩ := tS_sp h2 h1
  rw [h4, iN_eq (by omega) (by omega) (by omega) (by omega)]
  apply propext
  rw [s5 c (by omega)]
  exact ft_s1 hc
theorem rf_num (h : rT B m p I J) : (I 62 6 = iN 2) = (tK B m p = 2) := by
  obtain ⟨h1, h2, h3, h4, -⟩ := id h
  obtain ⟨-, s2, -, -, s5, s6, s7⟩ := tS_sp h2 h1
  rw [h4, iN_eq (by omega) (by omega) (by omega) (by omega)]
  exact propext s2
theorem rf_not (h : rT B m p I J) : fX12_isWord 7237492 I J = if ft B m p = -7 then iN 1 else iN 0 := by
  rw [rf_isw h (k := 14) (by omega) (by decide)]
  have : (tO B m p = (14 : Nat)) = (ft B m p = -7) := propext (ft_w1 (c := 14) (by omega))
  simp only [this]
theorem rf_asked (h : rT B m p I J) : fX12_asked I J = iN (if -6 ≤ ft B m p ∧ ft B m p ≤ -1 then -1 - ft B m p else -1) := by
  obtain ⟨h1, h2, h3, h4, -⟩ := id h
  obtain ⟨s1, -, -, -, -, s6, s7⟩ := tS_sp h2 h1
  rw [fX12_asked, h4]
  simp only [iN_lit, iN_neg]
  by_cases hk : tK B m p = 1
  · rw [ite_p (by rw [s1.mpr hk])]
    have w0 : (lg_cmp (J 62 9) 7499639 = iN 0) = (ft B m p = -1) := (rf_lg h hk (k := 15) (by omega)).trans (propext (ft_w1 (c := 15) (by omega)))
    have w1 : (lg_cmp (J 62 9) 109330212154734 = iN 0) = (ft B m p = -2) := (rf_lg h hk (k := 16) (by omega)).trans (propext (ft_w1 (c := 16) (by omega)))
    have w2 : (lg_cmp (J 62 9) 1819238756 = iN 0) = (ft B m p = -3) := (rf_lg h hk (k := 4) (by omega)).trans (propext (ft_w1 (c := 4) (by omega)))
    have w3 : (lg_cmp (J 62 9) 2003395685 = iN 0) = (ft B m p = -4) := (rf_lg h hk (k := 10) (by omega)).trans (propext (ft_w1 (c := 10) (by omega)))
    have w4 : (lg_cmp (J 62 9) 32497657166128499 = iN 0) = (ft B m p = -5) := (rf_lg h hk (k := 17) (by omega)).trans (propext (ft_w1 (c := 17) (by omega)))
    have w5 : (lg_cmp (J 62 9) 6844276 = iN 0) = (ft B m p = -6) := (rf_lg h hk (k := 18) (by omega)).trans (propext (ft_w1 (c := 18) (by omega)))
    simp only [w0, w1, w2, w3, w4, w5]
    by_cases e0 : ft B m p = -1
    · rw [if_pos e0, e0]; rfl
    rw [if_neg e0]
    by_cases e1 : ft B m p = -2
    · rw [if_pos e1, e1]; rfl
    rw [if_neg e1]
    by_cases e2 : ft B m p = -3
    · rw [if_pos e2, e2]; rfl
    rw [if_neg e2]
    by_cases e3 : ft B m p = -4
    · rw [if_pos e3, e3]; rfl
    rw [if_neg e3]
    by_cases e4 : ft B m p = -5
    · rw [if_pos e4, e4]; rfl
    rw [if_neg e4]
    by_cases e5 : ft B m p = -6
    · rw [if_pos e5, e5]; rfl
    rw [if_neg e5, if_neg (by omega)]
  · rw [ite_n (by rw [iN_eq (by omega) (by omega) (by omega) (by omega)]; exact fun z => hk (s1.mp z)), if_neg]
    intro z
    rcases ft_opd z.1 (by omega) with ⟨t1, t2, t3⟩ | ⟨t1, t2, t3⟩
    · omega
    · exact hk t1
theorem rf_sign (h : rT B m p I J) : fX12_sign I J = iN (if -17 ≤ ft B m p ∧ ft B m p ≤ -8 then rsg (ft B m p) else 0) := by
  have wa : fX12_isWord 6385252 I J = if ft B m p = -9 then iN 1 else iN 0 := by
    rw [rf_isw h (k := 13) (by omega) (by decide)]
    have : (tO B m p = (13 : Nat)) = (ft B m p = -9) := propext (ft_w1 (c := 13) (by omega))
    simp only [this]
  have wo : fX12_isWord 28530 I J = if ft B m p = -8 then iN 1 else iN 0 := by
    rw [rf_isw h (k := 12) (by omega) (by decide)]
    have : (tO B m p = (12 : Nat)) = (ft B m p = -8) := propext (ft_w1 (c := 12) (by omega))
    simp only [this]
  have r60 := rf_sort h (c := 60) (k := -10) (by omega)
  have r62 := rf_sort h (c := 62) (k := -11) (by omega)
  have r61 := rf_sort h (c := 61) (k := -12) (by omega)
  have r43 := rf_sort h (c := 43) (k := -13) (by omega)
  have r45 := rf_sort h (c := 45) (k := -14) (by omega)
  have r42 := rf_sort h (c := 42) (k := -15) (by omega)
  have r47 := rf_sort h (c := 47) (k := -16) (by omega)
  have r37 := rf_sort h (c := 37) (k := -17) (by omega)
  rw [fX12_sign, wa, wo]
  simp only [iN_lit, r60, r62, r61, r43, r45, r42, r47, r37]
  by_cases e9 : ft B m p = -9
  · rw [if_pos e9, ite_n n10, e9]; rfl
  rw [if_neg e9, ite_p rfl]
  by_cases e8 : ft B m p = -8
  · rw [if_pos e8, ite_n n10, e8]; rfl
  rw [if_neg e8, ite_p rfl]
  by_cases e0 : ft B m p = -10
  · rw [if_pos e0, r60.mpr e0, e0]; rfl
  rw [if_neg e0]
  by_cases e1 : ft B m p = -11
  · rw [if_pos e1, r62.mpr e1, e1]; rfl
  rw [if_neg e1]
  by_cases e2 : ft B m p = -12
  · rw [if_pos e2, r61.mpr e2, e2]; rfl
  rw [if_neg e2]
  by_cases e3 : ft B m p = -13
  · rw [if_pos e3, r43.mpr e3, e3]; rfl
  rw [if_neg e3]
  by_cases e4 : ft B m p = -14
  · rw [if_pos e4, r45.mpr e4, e4]; rfl
  rw [if_neg e4]
  by_cases e5 : ft B m p = -15
  · rw [if_pos e5, r42.mpr e5, e5]; rfl
  rw [if_neg e5]
  by_cases e6 : ft B m p = -16
  · rw [if_pos e6, r47.mpr e6, e6]; rfl
  rw [if_neg e6]
  by_cases e7 : ft B m p = -17
  · rw [if_pos e7, r37.mpr e7, e7]; rfl
  rw [if_neg e7, if_neg (by omega)]
theorem rf_wrong (h : rT B m p I J) (h2 : I 62 2 = iN 0) (j : Int) : rFl B m p j (fX12_wrong (iN j) I) ∧ (∀ a k, ¬ (a = 62 ∧ (k = 2 ∨ k = 3)) → fX12_wrong (iN j) I a k = I a k) := by
  obtain ⟨q1, q2, q3, q4, -⟩ := id h
  obtain ⟨-, -, s3, -, -, s6, s7⟩ := tS_sp q2 q1
  rw [fX12_wrong, h2, ite_n (show ¬ (0 : Int32) < iN 0 by decide), q4, q3]
  simp only [iN_lit]
  have fr : ∀ x y : Int32, ∀ a k, ¬ (a = 62 ∧ (k = 2 ∨ k = 3)) → (mm_up (mm_up I 62 2 x) 62 3 y) a k = I a k := fun x y a k hk => by rw [up_o (by omega), up_o (by omega)]
  by_cases e : tK B m p = 4
  · rw [ite_p (by rw [s3.mpr e])]
    exact ⟨⟨by rw [up_k (by omega), up_eq, if_pos e], up_eq⟩, fr _ _⟩
  · rw [ite_n (by rw [iN_eq (by omega) (by omega) (by omega) (by omega)]; exact fun z => e (s3.mp z))]
    exact ⟨⟨by rw [up_k (by omega), up_eq, if_neg e], up_eq⟩, fr _ _⟩
/-- there is a fault -/
def hasF (I : (Nat → Nat → Int32)) : Prop := ∃ f : Int, 1 ≤ f ∧ f ≤ 4 ∧ I 62 2 = iN f
theorem rFl_has {q : Nat} {j : Int} (h : rFl B m q j I) (hj : 1 ≤ j ∧ j ≤ 4) : hasF I := by
  unfold rFl at h
  by_cases e : tK B m q = 4
  · rw [if_pos e] at h; exact ⟨1, by omega, by omega, h.1⟩
  · rw [if_neg e] at h; exact ⟨j, hj.1, hj.2, h.1⟩
theorem hasF_no (h : hasF I) : ¬ I 62 2 = 0 ∧ 0 < I 62 2 := by
  obtain ⟨f, h1, h2, h3⟩ := h
  rw [h3]
  exact ⟨by show ¬ iN f = iN 0; rw [iN_eq (by omega) (by omega) (by omega) (by omega)]; omega, by show iN 0 < iN f; rw [iN_lt (by omega) (by omega) (by omega) (by omega)]; omega⟩
theorem rT_of (h : rT B m p I J) {I' : (Nat → Nat → Int32)} (e : ∀ k, k = 4 ∨ k = 5 ∨ k = 6 ∨ k = 7 ∨ k = 8 → I' 62 k = I 62 k) (e3 : ∀ j, I' 63 j = I 63 j) {J' : mJ} (eJ : J' 62 9 = J 62 9) : rT B m p I' J' := by
  obtain ⟨h1, ⟨b1, b2, b3⟩, h3, h4, h5, h6, h7⟩ := h
  exact ⟨h1, ⟨b1, by rw [e 5 (by omega)]; exact b2, fun k hk => by rw [e3]; exact b3 k hk⟩, by rw [e 7 (by omega)]; exact h3, by rw [e 6 (by omega)]; exact h4, fun z => by rw [e 4 (by omega)]; exact h5 z, fun z => by rw [e 8 (by omega)]; exact h6 z, fun z => by rw [eJ]; exact h7 z⟩
end RWD
