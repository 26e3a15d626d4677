/-! TOKENS as the reference reads them. -/
def rb (B : Nat → Int) (m : Nat) (I : (Nat → Nat → Int32)) : Prop := m ≤ 1600 ∧ I 62 5 = iN m ∧ ∀ k, k < m → 0 ≤ B k ∧ B k < 256 ∧ I 63 k = iN (B k)
def tS (B : Nat → Int) (m p : Nat) : Int := if tK B m p = 4 then 3 else if tK B m p = 3 then B (tP B m p) else tK B m p
def rT (B : Nat → Int) (m p : Nat) (I : (Nat → Nat → Int32)) (J : mJ) : Prop := p ≤ m ∧ rb B m I ∧ I 62 7 = iN (tP B m p : Nat) ∧ I 62 6 = iN (tS B m p) ∧ (¬ tK B m p = 4 → I 62 4 = iN (tN B m p : Nat)) ∧ (tK B m p = 2 → I 62 8 = iN (tV B m p)) ∧ (tK B m p = 1 → J 62 9 = iL (c256 (tW B m p)))
def xr (I I' : (Nat → Nat → Int32)) : Prop := ∀ a k, ¬ (a = 62 ∧ (k = 4 ∨ k = 6 ∨ k = 7 ∨ k = 8)) → I' a k = I a k
def xJr (J J' : mJ) : Prop := ∀ a k, ¬ (a = 62 ∧ k = 9) → J' a k = J a k
theorem xr_refl {I : (Nat → Nat → Int32)} : xr I I := fun _ _ _ => rfl
theorem xr_trans {I I' I'' : (Nat → Nat → Int32)} (h : xr I I') (h' : xr I' I'') : xr I I'' := fun a k hk => by rw [h' a k hk, h a k hk]
theorem xJr_refl {J : mJ} : xJr J J := fun _ _ _ => rfl
theorem xJr_trans {J J' J'' : mJ} (h : xJr J J') (h' : xJr J' J'') : xJr J J'' := fun a k hk => by rw [h' a k hk, h a k hk]
theorem rb_xr {B : Nat → Int} {m : Nat} {I I' : (Nat → Nat → Int32)} (h : rb B m I) (e : xr I I') : rb B m I' := by
  obtain ⟨h1, h2, h3⟩ := h
  refine ⟨h1, by rw [e 62 5 (by omega)]; exact h2, fun k hk => ?_⟩
  rw [e 63 k (by omega)]
  exact h3 k hk
theorem xr_up {I : (Nat → Nat → Int32)} {k : Nat} {x : Int32} (h : k = 4 ∨ k = 6 ∨ k = 7 ∨ k = 8) : xr I (mm_up I 62 k x) := by
  intro a j hj
  show (if a = 62 ∧ j = k then x else I a j) = I a j
  rw [if_neg (by omega)]
theorem xJr_up {J : mJ} {x : Int64} : xJr J (mm_up J 62 9 x) := by
  intro a j hj
  show (if a = 62 ∧ j = 9 then x else J a j) = J a j
  rw [if_neg hj]
section TRF
variable {B : Nat → Int} {m p q : Nat} {I : (Nat → Nat → Int32)} {J : mJ}
theorem rf_here (h : rb B m I) (hq : q ≤ m) (h4 : I 62 4 = iN q) {j : Nat} (hj : j ≤ 1600) : fX12_here (iN j) I = some (iN (if q + j < m then B (q + j) else -1)) := by
  obtain ⟨h1, h2, h3⟩ := h
  rw [fX12_here, h2, h4]
  simp only [iN_add, iN_lit, iN_neg]
  by_cases hm : q + j < m
  · rw [if_pos hm]
    simp (disch := omega) only [iN_lit, iN_add, iN_sub, iN_mul, iN_neg, iN_lt, iN_eq, iN_tn, if_true, if_false, if_pos, if_neg]
    rw [show ((q : Int) + j).toNat = q + j by omega, (h3 _ hm).2.2]
  · rw [if_neg hm]
    simp (disch := omega) only [iN_lit, iN_add, iN_sub, iN_mul, iN_neg, iN_lt, iN_eq, iN_tn, if_true, if_false, if_pos, if_neg]
theorem rf_let {b : Int} (h1 : -1 ≤ b) (h2 : b < 256) : (fX12_isLetter (iN b) = iN 0) = (¬ tlet b = true) := by
  unfold fX12_isLetter tlet
  simp (disch := omega) only [iN_lit, iN_add, iN_sub, iN_mul, iN_neg, iN_lt, iN_eq, iN_tn, if_true, if_false, if_pos, if_neg]
  by_cases h3 : b < 97
  · rw [if_pos h3]; simp; omega
  · rw [if_neg h3]
    by_cases h4 : 122 < b
    · rw [if_pos h4]; simp; omega
    · rw [if_neg h4]; simp [n10]; omega
theorem rf_digt {b : Int} (h1 : -1 ≤ b) (h2 : b < 256) : (fX12_isDigit (iN b) = iN 0) = (¬ tdig b = true) := by
  unfold fX12_isDigit tdig
  simp (disch := omega) only [iN_lit, iN_add, iN_sub, iN_mul, iN_neg, iN_lt, iN_eq, iN_tn, if_true, if_false, if_pos, if_neg]
  by_cases h3 : b < 48
  · rw [if_pos h3]; simp; omega
  · rw [if_neg h3]
    by_cases h4 : 57 < b
    · rw [if_pos h4]; simp; omega
    · rw [if_neg h4]; simp [n10]; omega
theorem rf_sig : ∀ b : Fin 256, (fX12_isSign (iN (b.val : Int)) = iN 0) ↔ ¬ tsig (b.val : Int) = true := by decide +kernel
theorem rf_blank : ∀ (d n p : Nat) (I : (Nat → Nat → Int32)), rb B m I → p + d = m → d < n → I 62 4 = iN p → ∃ I', fX12_token_L0 n I = some I' ∧ I' 62 4 = iN ((p + trun tbl0 B d p : Nat) : Int) ∧ (∀ a k, ¬ (a = 62 ∧ k = 4) → I' a k = I a k) := by
  intro d
  induction d with
  | zero =>
    intro n p I hb hp hn h4
    obtain ⟨n, rfl⟩ : ∃ k, n = k + 1 := ⟨n - 1, by omega⟩
    refine ⟨I, ?_, h4, fun _ _ _ => rfl⟩
    have := hb.1
    have e : fX12_here 0 I = some (iN (-1)) := by
      have := rf_here hb (by omega) h4 (j := 0) (by omega)
      rw [if_neg (by omega)] at this
      exact this
    rw [fX12_token_L0, e, Option.bind_some, Option.bind_some]
    rw [ite_n (by decide), ite_n (by decide)]
  | succ d ih =>
    intro n p I hb hp hn h4
    obtain ⟨n, rfl⟩ : ∃ k, n = k + 1 := ⟨n - 1, by omega⟩
    have hm := hb.1
    obtain ⟨b1, b2, -⟩ := hb.2.2 p (by omega)
    have e : fX12_here 0 I = some (iN (B p)) := by
      have := rf_here hb (by omega) h4 (j := 0) (by omega)
      rw [if_pos (by omega)] at this
      exact this
    rw [fX12_token_L0, e, Option.bind_some, Option.bind_some, h4]
    simp (disch := omega) only [iN_lit, iN_add, iN_sub, iN_mul, iN_neg, iN_lt, iN_eq, iN_tn]
    rw [trun]
    have nx : ∃ I', fX12_token_L0 n (mm_up I 62 4 (iN ((p : Int) + 1))) = some I' ∧ I' 62 4 = iN ((p + 1 + trun tbl0 B d (p + 1) : Nat) : Int) ∧ (∀ a k, ¬ (a = 62 ∧ k = 4) → I' a k = I a k) := by
      obtain ⟨I', g1, g2, g3⟩ := ih n (p + 1) (mm_up I 62 4 (iN ((p : Int) + 1))) (rb_xr hb (xr_up (by omega))) (by omega) (by omega) (by rw [up_eq]; congr 1)
      refine ⟨I', g1, g2, fun a k hk => ?_⟩
      rw [g3 a k hk]
      show (if a = 62 ∧ k = 4 then _ else I a k) = I a k
      rw [if_neg hk]
    obtain ⟨I', g1, g2, g3⟩ := nx
    by_cases e1 : B p = 32
    · rw [if_pos e1, if_pos (by unfold tbl0; simp [e1])]
      exact ⟨I', g1, by rw [g2]; congr 2; omega, g3⟩
    · rw [if_neg e1]
      by_cases e2 : B p = 10
      · rw [if_pos e2, if_pos (by unfold tbl0; simp [e2])]
        exact ⟨I', g1, by rw [g2]; congr 2; omega, g3⟩
      · rw [if_neg e2, if_neg (by unfold tbl0; simp [e1, e2])]
        exact ⟨I, rfl, h4, fun _ _ _ => rfl⟩
def mn (a b : Nat) : Nat := if a ≤ b then a else b
theorem rf_nl : ∀ (d n j : Nat) (I : (Nat → Nat → Int32)), rb B m I → j + d = tL tdig B m q → q < m → d < n → I 62 4 = iN q → I 62 8 = iN (tval (tlst B (mn j 4) q)) →
    ∃ I', fX12_token_L144 n (iN j) I = some (iN (tL tdig B m q : Nat), I') ∧ I' 62 8 = iN (tval (tlst B (mn (tL tdig B m q) 4) q)) ∧ (∀ a k, ¬ (a = 62 ∧ k = 8) → I' a k = I a k) := by
  intro d
  induction d with
  | zero =>
    intro n j I hb hj hq hn h4 h8
    obtain ⟨n, rfl⟩ : ∃ k, n = k + 1 := ⟨n - 1, by omega⟩
    have hm := hb.1
    have hj : j = tL tdig B m q := by omega
    have hi := tL_in (f := tdig) (B := B) (show q ≤ m by omega)
    refine ⟨I, ?_, by rw [h8, hj], fun _ _ _ => rfl⟩
    rw [fX12_token_L144, rf_here hb (by omega) h4 (by omega), Option.bind_some]
    have : ¬ tdig (if q + j < m then B (q + j) else -1) = true := by
      by_cases hm : q + j < m
      · rw [if_pos hm, hj]; exact tL_end (by omega)
      · rw [if_neg hm]; decide
    have hbd : -1 ≤ (if q + j < m then B (q + j) else -1) ∧ (if q + j < m then B (q + j) else -1) < 256 := by
      by_cases hm : q + j < m
      · rw [if_pos hm]; have := hb.2.2 _ hm; omega
      · rw [if_neg hm]; omega
    simp only [iN_lit]
    rw [ite_p (by rw [rf_digt hbd.1 hbd.2]; exact this), hj]
  | succ d ih =>
    intro n j I hb hj hq hn h4 h8
    obtain ⟨n, rfl⟩ : ∃ k, n = k + 1 := ⟨n - 1, by omega⟩
    have hm := hb.1
    have hi := tL_in (f := tdig) (B := B) (show q ≤ m by omega)
    obtain ⟨b1, b2, -⟩ := hb.2.2 (q + j) (by omega)
    have hl := tL_at (f := tdig) (B := B) (q := q) (m := m) (j := j) (by omega)
    rw [fX12_token_L144, rf_here hb (by omega) h4 (by omega), if_pos (by omega), Option.bind_some, Option.bind_some, h8]
    simp only [iN_lit, iN_mul, iN_add, iN_sub]
    rw [ite_n (by rw [rf_digt (by omega) b2]; exact fun z => z hl)]
    rw [show (j : Int) + 1 = ((j + 1 : Nat) : Int) by omega]
    by_cases h4' : j < 4
    · rw [ite_p (by rw [iN_lt (by omega) (by omega) (by omega) (by omega)]; omega)]
      have e : 10 * tval (tlst B (mn j 4) q) + B (q + j) - 48 = tval (tlst B (mn (j + 1) 4) q) := by
        rw [show mn (j + 1) 4 = j + 1 by unfold mn; rw [if_pos (by omega)], show mn j 4 = j by unfold mn; rw [if_pos (by omega)], tlst_s, tval_s]; omega
      rw [e]
      obtain ⟨I', g1, g2, g3⟩ := ih n (j + 1) (mm_up I 62 8 (iN (tval (tlst B (mn (j + 1) 4) q)))) (rb_xr hb (xr_up (by omega))) (by omega) hq (by omega) (by rw [up_k (by omega)]; exact h4) up_eq
      refine ⟨I', g1, g2, fun a k hk => ?_⟩
      rw [g3 a k hk]
      show (if a = 62 ∧ k = 8 then _ else I a k) = I a k
      rw [if_neg hk]
    · rw [ite_n (by rw [iN_lt (by omega) (by omega) (by omega) (by omega)]; omega)]
      refine ih n (j + 1) I hb (by omega) hq (by omega) h4 ?_
      rw [h8]
      congr 3
      unfold mn
      by_cases h5 : j ≤ 4
      · rw [if_pos h5, if_neg (by omega)]; omega
      · rw [if_neg h5, if_neg (by omega)]
theorem rf_wl (hI : rb B m I) (hq : q < m) (h4 : I 62 4 = iN q) : ∀ (d n j : Nat) (J : mJ), j + d = tL tlet B m q → d < n → J 62 9 = iL (c256 (tlst B (mn j 8) q)) →
    ∃ J', fX12_token_L78 n (iN j) I J = some (iN (tL tlet B m q : Nat), J') ∧ J' 62 9 = iL (c256 (tlst B (mn (tL tlet B m q) 8) q)) ∧ xJr J J' := by
  have hm := hI.1
  have hi := tL_in (f := tlet) (B := B) (show q ≤ m by omega)
  intro d
  induction d with
  | zero =>
    intro n j J hj hn h8
    obtain ⟨n, rfl⟩ : ∃ k, n = k + 1 := ⟨n - 1, by omega⟩
    have hj : j = tL tlet B m q := by omega
    refine ⟨J, ?_, by rw [h8, hj], xJr_refl⟩
    rw [fX12_token_L78, rf_here hI (by omega) h4 (by omega), Option.bind_some]
    have : ¬ tlet (if q + j < m then B (q + j) else -1) = true := by
      by_cases hm : q + j < m
      · rw [if_pos hm, hj]; exact tL_end (by omega)
      · rw [if_neg hm]; decide
    have hbd : -1 ≤ (if q + j < m then B (q + j) else -1) ∧ (if q + j < m then B (q + j) else -1) < 256 := by
      by_cases hm : q + j < m
      · rw [if_pos hm]; have := hI.2.2 _ hm; omega
      · rw [if_neg hm]; omega
    simp only [iN_lit]
    rw [ite_p (by rw [rf_let hbd.1 hbd.2]; exact this), hj]
  | succ d ih =>
    intro n j J hj hn h8
    obtain ⟨n, rfl⟩ : ∃ k, n = k + 1 := ⟨n - 1, by omega⟩
    obtain ⟨b1, b2, -⟩ := hI.2.2 (q + j) (by omega)
    have hl := tL_at (f := tlet) (B := B) (q := q) (m := m) (j := j) (by omega)
    rw [fX12_token_L78, rf_here hI (by omega) h4 (by omega), if_pos (by omega), Option.bind_some, Option.bind_some, h8]
    rw [ite_n (by rw [show (0 : Int32) = iN 0 from rfl, rf_let (by omega) b2]; exact fun z => z hl)]
    have e1 : (iN (j : Int) + 1 : Int32) = iN ((j + 1 : Nat) : Int) := by rw [show (1 : Int32) = iN 1 from rfl, iN_add]; congr 1
    rw [e1]
    by_cases h4' : j < 8
    · rw [ite_p (by rw [show (8 : Int32) = iN 8 from rfl, iN_lt (by omega) (by omega) (by omega) (by omega)]; omega)]
      have ew : wrd (tlst B j q) := ⟨by rw [tlst_len]; omega, fun a ha => by
        unfold tlst at ha
        obtain ⟨i, hi, rfl⟩ := List.mem_map.mp ha
        have := tL_at (f := tlet) (B := B) (q := q) (m := m) (j := i) (by have := List.mem_range.mp hi; omega)
        unfold tlet at this
        simpa using this⟩
      have hc := cv_in 256 0 (by omega) (by omega) (by omega) (tlst B j q) ew.2
      have g : (fun (a d : Int) => a * 256 + (d - 0)) = fun a d => a * 256 + d := by funext a d; rw [Int.sub_zero]
      rw [g, tlst_len] at hc
      have hc2 : (256 : Int) ^ j ≤ 256 ^ 7 := ipow_le (by omega) (by omega)
      have hc3 : (256 : Int) ^ 7 = 72057594037927936 := by decide
      have hc1 : 0 ≤ c256 (tlst B j q) ∧ c256 (tlst B j q) < 256 ^ j := hc
      have e : (iL (c256 (tlst B (mn j 8) q)) <<< ((8 : Int32).toInt64 &&& 63)) ||| (iN (B (q + j))).toInt64 = iL (c256 (tlst B (mn (j + 1) 8) q)) := by
        rw [show mn (j + 1) 8 = j + 1 by unfold mn; rw [if_pos (by omega)], show mn j 8 = j by unfold mn; rw [if_pos (by omega)], iN_L (by omega) (by omega), iL_sh hc1.1 (by omega) b1 b2, tlst_s, c256_s]
      rw [e]
      obtain ⟨J', g1, g2, g3⟩ := ih n (j + 1) (mm_up J 62 9 (iL (c256 (tlst B (mn (j + 1) 8) q)))) (by omega) (by omega) up_eq
      exact ⟨J', g1, g2, xJr_trans xJr_up g3⟩
    · rw [ite_n (by rw [show (8 : Int32) = iN 8 from rfl, iN_lt (by omega) (by omega) (by omega) (by omega)]; omega)]
      refine ih n (j + 1) J (by omega) (by omega) ?_
      rw [h8]
      congr 3
      unfold mn
      by_cases h5 : j ≤ 8
      · rw [if_pos h5, if_neg (by omega)]; omega
      · rw [if_neg h5, if_neg (by omega)]
theorem rf_tok (hb : rb B m I) (hp : p ≤ m) (h4 : I 62 4 = iN p) {n : Nat} (hn : 1700 ≤ n) : ∃ I' J', fX12_token n I J = some (I', J') ∧ rT B m p I' J' ∧ xr I I' ∧ xJr J J' := by
  have hm := hb.1
  have hq := tP_in (B := B) hp
  obtain ⟨I1, g1, g2, g3⟩ := rf_blank (m - p) n p I hb (by omega) (by omega) h4
  have g2 : I1 62 4 = iN (tP B m p : Nat) := g2
  rw [fX12_token, g1, Option.bind_some, g2]
  have hx1 : xr I (mm_up I1 62 7 (iN (tP B m p : Nat))) := xr_trans (fun a k hk => g3 a k (by omega)) (xr_up (by omega))
  have hb1 := rb_xr hb hx1
  have e4 : (mm_up I1 62 7 (iN (tP B m p : Nat))) 62 4 = iN (tP B m p : Nat) := by rw [up_k (by omega), g2]
  have e7 : (mm_up I1 62 7 (iN (tP B m p : Nat))) 62 7 = iN (tP B m p : Nat) := up_eq
  generalize mm_up I1 62 7 (iN (tP B m p : Nat)) = I2 at hx1 hb1 e4 e7 ⊢
  have hh := rf_here hb1 hq.2 e4 (j := 0) (by omega)
  have hh : fX12_here 0 I2 = some (iN (if tP B m p < m then B (tP B m p) else -1)) := hh
  rw [hh, Option.bind_some]
  simp only [iN_lit]
  have hx3 : xr I (mm_up I2 62 8 (iN 0)) := xr_trans hx1 (xr_up (by omega))
  have hb3 := rb_xr hb hx3
  have i4 : (mm_up I2 62 8 (iN 0)) 62 4 = iN (tP B m p : Nat) := by rw [up_k (by omega), e4]
  have i7 : (mm_up I2 62 8 (iN 0)) 62 7 = iN (tP B m p : Nat) := by rw [up_k (by omega), e7]
  have i8 : (mm_up I2 62 8 (iN 0)) 62 8 = iN 0 := up_eq
  generalize mm_up I2 62 8 (iN 0) = I3 at hx3 hb3 i4 i7 i8 ⊢
  have hJ9 : xJr J (mm_up J 62 9 0) := xJr_up
  /- the last steps, the same in all cases -/
  have J232 : ∀ (y K : Int) (M : (Nat → Nat → Int32)) (L : mJ), xr I M → rb B m M → M 62 4 = iN (tP B m p : Nat) → M 62 7 = iN (tP B m p : Nat) → xJr J L → (tK B m p = 2 → M 62 8 = iN (tV B m p)) → (tK B m p = 1 → L 62 9 = iL (c256 (tW B m p))) → tS B m p = K → -1 ≤ K ∧ K < 300 → (¬ tK B m p = 4 → ¬ K = 3 ∧ (tP B m p : Int) + y = (tN B m p : Nat)) → (tK B m p = 4 → K = 3) →
      ∃ I' J', fX12_token_J232 (iN y) (mm_up M 62 6 (iN K)) L = some (I', J') ∧ rT B m p I' J' ∧ xr I I' ∧ xJr J J' := by
    intro y K M L a1 a2 a3 a4 a5 a6 a7 a8 a9 a10 a11
    rw [fX12_token_J232, up_eq]
    simp only [iN_lit]
    by_cases k4 : tK B m p = 4
    · rw [ite_p (by rw [a11 k4])]
      refine ⟨_, _, rfl, ⟨hp, rb_xr a2 (xr_up (by omega)), ?_, ?_, ?_, ?_, ?_⟩, xr_trans a1 (xr_up (by omega)), a5⟩
      · rw [up_k (by omega), a4]
      · rw [up_eq, a8]
      · intro h; exact absurd k4 h
      · intro h; omega
      · intro h; omega
    · obtain ⟨c1, c2⟩ := a10 k4
      rw [ite_n (by rw [iN_eq (by omega) (by omega) (by omega) (by omega)]; exact c1), up_k (by omega), a3, iN_add]
      refine ⟨_, _, rfl, ⟨hp, rb_xr a2 (xr_trans (xr_up (by omega)) (xr_up (by omega))), ?_, ?_, ?_, ?_, ?_⟩, xr_trans a1 (xr_trans (xr_up (by omega)) (xr_up (by omega))), a5⟩
      · rw [up_k (by omega), up_k (by omega), a4]
      · rw [up_k (by omega), up_eq, a8]
      · intro _; rw [up_eq, c2]
      · intro h; rw [up_k (by omega), up_k (by omega), a6 h]
      · exact a7
  by_cases h0 : tP B m p < m
  · rw [if_pos h0]
    obtain ⟨b1, b2, -⟩ := hb1.2.2 _ h0
    have hnm : ¬ m ≤ tP B m p := by omega
    rw [ite_n (by rw [iN_lt (by omega) (by omega) (by omega) (by omega)]; omega)]
    by_cases h1 : tlet (B (tP B m p)) = true
    · rw [ite_n (by rw [rf_let (by omega) b2]; exact fun z => z h1)]
      have hLm := tL_in (f := tlet) (B := B) (show tP B m p ≤ m by omega)
      have hN : tN B m p = tP B m p + tL tlet B m (tP B m p) := by unfold tN tNq; rw [if_neg hnm, if_pos h1]
      obtain ⟨J1, w1, w2, w3⟩ := rf_wl hb3 h0 i4 (tL tlet B m (tP B m p)) n 0 (mm_up J 62 9 0) (by omega) (by omega) up_eq
      have w1 : fX12_token_L78 n (iN 0) I3 (mm_up J 62 9 0) = some (iN (tL tlet B m (tP B m p) : Nat), J1) := w1
      rw [w1, Option.bind_some]
      by_cases h8 : 8 < tL tlet B m (tP B m p)
      · have hK : tK B m p = 4 := by unfold tK tKq; rw [if_neg hnm, if_pos h1, if_pos h8]
        rw [ite_p (by rw [iN_lt (by omega) (by omega) (by omega) (by omega)]; omega), fX12_token_J131]
        exact J232 _ 3 I3 J1 hx3 hb3 i4 i7 (xJr_trans hJ9 w3) (fun h => by omega) (fun h => by omega) (by unfold tS; rw [if_pos hK]) (by omega) (fun h => absurd hK h) (fun _ => rfl)
      · have hK : tK B m p = 1 := by unfold tK tKq; rw [if_neg hnm, if_pos h1, if_neg h8]
        rw [ite_n (by rw [iN_lt (by omega) (by omega) (by omega) (by omega)]; omega), fX12_token_J131]
        refine J232 _ 1 I3 J1 hx3 hb3 i4 i7 (xJr_trans hJ9 w3) (fun h => by omega) (fun _ => ?_) (by unfold tS; rw [if_neg (by omega), if_neg (by omega), hK]) (by omega) (fun _ => ⟨by omega, by rw [hN]; omega⟩) (fun h => by omega)
        rw [w2]
        have : mn (tL tlet B m (tP B m p)) 8 = tL tlet B m (tP B m p) := by unfold mn; rw [if_pos (by omega)]
        rw [this]; rfl
    · rw [ite_p (by rw [rf_let (by omega) b2]; exact h1)]
      by_cases h2 : tdig (B (tP B m p)) = true
      · rw [ite_n (by rw [rf_digt (by omega) b2]; exact fun z => z h2)]
        have hLm := tL_in (f := tdig) (B := B) (show tP B m p ≤ m by omega)
        have hN : tN B m p = tP B m p + tL tdig B m (tP B m p) := by unfold tN tNq; rw [if_neg hnm, if_neg h1, if_pos h2]
        have hKd : tK B m p = if 4 < tL tdig B m (tP B m p) then 4 else if tP B m p + tL tdig B m (tP B m p) < m ∧ tlet (B (tP B m p + tL tdig B m (tP B m p))) = true then 4 else 2 := by
          unfold tK tKq; rw [if_neg hnm, if_neg h1, if_pos h2]
        obtain ⟨M, w1, w2, w3⟩ := rf_nl (q := tP B m p) (tL tdig B m (tP B m p)) n 0 I3 hb3 (by omega) h0 (by omega) i4 i8
        have w1 : fX12_token_L144 n (iN 0) I3 = some (iN (tL tdig B m (tP B m p) : Nat), M) := w1
        rw [w1, Option.bind_some]
        have hxM : xr I M := xr_trans hx3 (fun a k hk => w3 a k (by omega))
        have hbM := rb_xr hb hxM
        have m4 : M 62 4 = iN (tP B m p : Nat) := by rw [w3 62 4 (by omega), i4]
        have m7 : M 62 7 = iN (tP B m p : Nat) := by rw [w3 62 7 (by omega), i7]
        have bad : tK B m p = 4 → ∃ I' J', fX12_token_J203 (iN (tL tdig B m (tP B m p) : Nat)) M (mm_up J 62 9 (0 : Int64)) = some (I', J') ∧ rT B m p I' J' ∧ xr I I' ∧ xJr J J' := by
          intro hK
          rw [fX12_token_J203, fX12_token_J208]
          exact J232 _ 3 M _ hxM hbM m4 m7 hJ9 (fun h => by omega) (fun h => by omega) (by unfold tS; rw [if_pos hK]) (by omega) (fun h => absurd hK h) (fun _ => rfl)
        by_cases h4' : 4 < tL tdig B m (tP B m p)
        · rw [ite_p (by rw [iN_lt (by omega) (by omega) (by omega) (by omega)]; omega)]
          exact bad (by rw [hKd, if_pos h4'])
        · rw [ite_n (by rw [iN_lt (by omega) (by omega) (by omega) (by omega)]; omega), rf_here hbM hq.2 m4 (by omega), Option.bind_some]
          have hbd : -1 ≤ (if tP B m p + tL tdig B m (tP B m p) < m then B (tP B m p + tL tdig B m (tP B m p)) else -1) ∧ (if tP B m p + tL tdig B m (tP B m p) < m then B (tP B m p + tL tdig B m (tP B m p)) else -1) < 256 := by
            by_cases hm' : tP B m p + tL tdig B m (tP B m p) < m
            · rw [if_pos hm']; have := hb.2.2 _ hm'; omega
            · rw [if_neg hm']; omega
          by_cases hl : tP B m p + tL tdig B m (tP B m p) < m ∧ tlet (B (tP B m p + tL tdig B m (tP B m p))) = true
          · rw [ite_n (by rw [rf_let hbd.1 hbd.2, if_pos hl.1]; exact fun z => z hl.2)]
            exact bad (by rw [hKd, if_neg h4', if_pos hl])
          · rw [ite_p (by
              rw [rf_let hbd.1 hbd.2]
              by_cases hm' : tP B m p + tL tdig B m (tP B m p) < m
              · rw [if_pos hm']; exact fun z => hl ⟨hm', z⟩
              · rw [if_neg hm']; decide), fX12_token_J208]
            have hK : tK B m p = 2 := by rw [hKd, if_neg h4', if_neg hl]
            refine J232 _ 2 M _ hxM hbM m4 m7 hJ9 (fun _ => ?_) (fun h => by omega) (by unfold tS; rw [if_neg (by omega), if_neg (by omega), hK]) (by omega) (fun _ => ⟨by omega, by rw [hN]; omega⟩) (fun h => by omega)
            rw [w2]
            have : mn (tL tdig B m (tP B m p)) 4 = tL tdig B m (tP B m p) := by unfold mn; rw [if_pos (by omega)]
            rw [this]; rfl
      · rw [ite_p (by rw [rf_digt (by omega) b2]; exact h2)]
        have hsg := rf_sig ⟨(B (tP B m p)).toNat, by omega⟩
        have eB : (((B (tP B m p)).toNat : Nat) : Int) = B (tP B m p) := by omega
        simp only [eB] at hsg
        have hN : tN B m p = tP B m p + 1 := by unfold tN tNq; rw [if_neg hnm, if_neg h1, if_neg h2]
        by_cases h3 : tsig (B (tP B m p)) = true
        · rw [ite_n (fun c => (hsg.mp c) h3), fX12_token_J229]
          have hK : tK B m p = 3 := by unfold tK tKq; rw [if_neg hnm, if_neg h1, if_neg h2, if_pos h3]
          refine J232 1 (B (tP B m p)) I3 _ hx3 hb3 i4 i7 hJ9 (fun h => by omega) (fun h => by omega) (by unfold tS; rw [if_neg (by omega), if_pos hK]) (by omega) (fun _ => ⟨?_, by rw [hN]; omega⟩) (fun h => by omega)
          intro e; rw [e] at h3; exact absurd h3 (by decide)
        · rw [ite_p (hsg.mpr h3), fX12_token_J229]
          have hK : tK B m p = 4 := by unfold tK tKq; rw [if_neg hnm, if_neg h1, if_neg h2, if_neg h3]
          exact J232 1 3 I3 _ hx3 hb3 i4 i7 hJ9 (fun h => by omega) (fun h => by omega) (by unfold tS; rw [if_pos hK]) (by omega) (fun h => absurd hK h) (fun _ => rfl)
  · rw [if_neg h0]
    rw [ite_p (by decide)]
    have hK : tK B m p = 0 := by unfold tK tKq; rw [if_pos (by omega)]
    have hN : tN B m p = tP B m p := by unfold tN tNq; rw [if_pos (by omega)]
    exact J232 0 0 I3 _ hx3 hb3 i4 i7 hJ9 (fun h => by omega) (fun h => by omega) (by unfold tS; rw [if_neg (by omega), if_neg (by omega), hK]) (by omega) (fun _ => ⟨by omega, by rw [hN]; omega⟩) (fun h => by omega)
theorem rf_next_t (h : rT B m p I J) (hk : ¬ tK B m p = 4) {n : Nat} (hn : 1700 ≤ n) : ∃ I' J', fX12_token n I J = some (I', J') ∧ rT B m (tN B m p) I' J' ∧ xr I I' ∧ xJr J J' := by
  obtain ⟨h1, h2, -, -, h5, -⟩ := h
  exact rf_tok h2 (tN_in h1).1 (h5 hk) hn
end TRF
