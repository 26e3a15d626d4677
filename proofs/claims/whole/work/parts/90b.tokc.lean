/-! TOKENS as the class reads them. -/
abbrev mJ : Type := Nat → Nat → Int64
def cb (B : Nat → Int) (m : Nat) (I : (Nat → Nat → Int32)) : Prop := m ≤ 1600 ∧ I 16 2 = iN m ∧ ∀ k, k < m → 0 ≤ B k ∧ B k < 256 ∧ I 2 k &&& iN 255 = iN (B k)
def cw (J : mJ) : Prop := ∀ k : Nat, k < 19 → J 17 k = iL (c27 (ownI k))
def cT (B : Nat → Int) (m p : Nat) (I : (Nat → Nat → Int32)) (J : mJ) : Prop := p ≤ m ∧ cb B m I ∧ cw J ∧ I 16 3 = iN (tP B m p : Nat) ∧ I 16 5 = iN (tK B m p) ∧ I 16 4 = iN (tN B m p : Nat) ∧ (tK B m p = 2 → I 16 6 = iN (tV B m p)) ∧ I 16 7 = iN (tO B m p) ∧ (tK B m p = 1 → J 16 8 = iL (c27 (tW B m p)))
def xk (I I' : (Nat → Nat → Int32)) : Prop := ∀ a k, ¬ (a = 16 ∧ 3 ≤ k ∧ k ≤ 7) → I' a k = I a k
def xJ (J J' : mJ) : Prop := ∀ a k, ¬ (a = 16 ∧ k = 8) → J' a k = J a k
theorem xk_refl {I : (Nat → Nat → Int32)} : xk I I := fun _ _ _ => rfl
theorem xk_trans {I I' I'' : (Nat → Nat → Int32)} (h : xk I I') (h' : xk I' I'') : xk I I'' := fun a k hk => by rw [h' a k hk, h a k hk]
theorem xJ_refl {J : mJ} : xJ J J := fun _ _ _ => rfl
theorem xJ_trans {J J' J'' : mJ} (h : xJ J J') (h' : xJ J' J'') : xJ J J'' := fun a k hk => by rw [h' a k hk, h a k hk]
theorem cb_xk {B : Nat → Int} {m : Nat} {I I' : (Nat → Nat → Int32)} (h : cb B m I) (e : xk I I') : cb B m I' := by
  obtain ⟨h1, h2, h3⟩ := h
  refine ⟨h1, by rw [e 16 2 (by omega)]; exact h2, fun k hk => ?_⟩
  rw [e 2 k (by omega)]
  exact h3 k hk
theorem cw_xJ {J J' : mJ} (h : cw J) (e : xJ J J') : cw J' := fun k hk => by rw [e 17 k (by omega)]; exact h k hk
section TCL
variable {B : Nat → Int} {m p q : Nat} {I : (Nat → Nat → Int32)} {J : mJ}
theorem cl_byte (h : cb B m I) (hq : q < m) : fX4_byteAt (iN q) I = some (iN (B q)) := by
  obtain ⟨h1, h2, h3⟩ := h
  rw [fX4_byteAt, h2]
  simp (disch := omega) only [iN_lit, iN_add, iN_sub, iN_mul, iN_neg, iN_lt, iN_eq, iN_tn, if_true, if_false, if_pos, if_neg]
  rw [show ((q : Int)).toNat = q by omega, (h3 q hq).2.2]
theorem cl_let {b : Int} (h1 : 0 ≤ b) (h2 : b < 256) : (fX4_isLetter (iN b) = iN 0) = (¬ tlet b = true) := by
  unfold fX4_isLetter tlet
  simp (disch := omega) only [iN_lit, iN_add, iN_sub, iN_mul, iN_neg, iN_lt, iN_eq, iN_tn, if_true, if_false, if_pos, if_neg]
  by_cases h3 : b < 97
  · rw [if_pos h3]; simp; omega
  · rw [if_neg h3]
    by_cases h4 : 122 < b
    · rw [if_pos h4]; simp; omega
    · rw [if_neg h4]; simp [n10]; omega
theorem cl_dig {b : Int} (h1 : 0 ≤ b) (h2 : b < 256) : (fX4_isDigit (iN b) = iN 0) = (¬ tdig b = true) := by
  unfold fX4_isDigit tdig
  simp (disch := omega) only [iN_lit, iN_add, iN_sub, iN_mul, iN_neg, iN_lt, iN_eq, iN_tn, if_true, if_false, if_pos, if_neg]
  by_cases h3 : b < 48
  · rw [if_pos h3]; simp; omega
  · rw [if_neg h3]
    by_cases h4 : 57 < b
    · rw [if_pos h4]; simp; omega
    · rw [if_neg h4]; simp [n10]; omega
theorem cl_blank (h : cb B m I) : ∀ (d n p : Nat), p + d = m → d < n → fX4_advance_L5 n (iN p) I = some (iN ((p + trun tbl0 B d p : Nat) : Int)) := by
  obtain ⟨h1, h2, h3⟩ := id h
  intro d
  induction d with
  | zero =>
    intro n p hp hn
    obtain ⟨n, rfl⟩ : ∃ k, n = k + 1 := ⟨n - 1, by omega⟩
    rw [fX4_advance_L5, h2]
    simp (disch := omega) only [iN_lit, iN_add, iN_sub, iN_mul, iN_neg, iN_lt, iN_eq, iN_tn, if_true, if_false, if_pos, if_neg]
    rfl
  | succ d ih =>
    intro n p hp hn
    obtain ⟨n, rfl⟩ : ∃ k, n = k + 1 := ⟨n - 1, by omega⟩
    obtain ⟨b1, b2, -⟩ := h3 p (by omega)
    rw [fX4_advance_L5, h2]
    simp (disch := omega) only [iN_lit, iN_add, iN_sub, iN_mul, iN_neg, iN_lt, iN_eq, iN_tn, if_true, if_false, if_pos, if_neg]
    rw [cl_byte h (by omega), Option.bind_some, Option.bind_some]
    simp (disch := omega) only [iN_lit, iN_add, iN_sub, iN_mul, iN_neg, iN_lt, iN_eq, iN_tn]
    have hnx : fX4_advance_L5 n (iN ((p : Int) + 1)) I = some (iN ((p + 1 + trun tbl0 B d (p + 1) : Nat) : Int)) := by
      rw [show (p : Int) + 1 = ((p + 1 : Nat) : Int) by omega]
      exact ih n (p + 1) (by omega) (by omega)
    rw [trun]
    by_cases e1 : B p = 32
    · rw [if_pos e1, hnx, if_pos (by unfold tbl0; simp [e1])]
      congr 2; omega
    · rw [if_neg e1]
      by_cases e2 : B p = 10
      · rw [if_pos e2, hnx, if_pos (by unfold tbl0; simp [e2])]
        congr 2; omega
      · rw [if_neg e2, if_neg (by unfold tbl0; simp [e1, e2])]
        rfl
theorem cl_wl (h : cb B m I) : ∀ (d n j : Nat) (I : (Nat → Nat → Int32)) (J : mJ), cb B m I → j + d = tL tlet B m q → q < m → d < n → I 16 4 = iN ((q + j : Nat) : Int) → J 16 8 = iL (c27 (tlst B j q)) →
    ∃ I' J', fX4_takeWord_L5 n I J = some (I', J') ∧ I' 16 4 = iN ((q + tL tlet B m q : Nat) : Int) ∧ J' 16 8 = iL (c27 (tlst B (tL tlet B m q) q)) ∧ (∀ a k, ¬ (a = 16 ∧ k = 4) → I' a k = I a k) ∧ xJ J J' := by
  intro d
  induction d with
  | zero =>
    intro n j I J hb hj hq hn e1 e2
    obtain ⟨n, rfl⟩ : ∃ k, n = k + 1 := ⟨n - 1, by omega⟩
    obtain ⟨h1, h2, h3⟩ := id hb
    have hj : j = tL tlet B m q := by omega
    have hi := tL_in (f := tlet) (B := B) (show q ≤ m by omega)
    refine ⟨I, J, ?_, by rw [e1, hj], by rw [e2, hj], fun _ _ _ => rfl, xJ_refl⟩
    rw [fX4_takeWord_L5, e1, h2]
    by_cases hm : q + j < m
    · obtain ⟨b1, b2, -⟩ := h3 (q + j) hm
      have := tL_end (f := tlet) (B := B) (q := q) (m := m) (by omega)
      rw [← hj] at this
      simp (disch := omega) only [iN_lit, iN_add, iN_sub, iN_mul, iN_neg, iN_lt, iN_eq, iN_tn, if_true, if_false, if_pos, if_neg]
      rw [cl_byte hb hm, Option.bind_some, ite_p (by rw [cl_let b1 b2]; exact this)]
    · simp (disch := omega) only [iN_lit, iN_add, iN_sub, iN_mul, iN_neg, iN_lt, iN_eq, iN_tn, if_true, if_false, if_pos, if_neg]
  | succ d ih =>
    intro n j I J hb hj hq hn e1 e2
    obtain ⟨n, rfl⟩ : ∃ k, n = k + 1 := ⟨n - 1, by omega⟩
    obtain ⟨h1, h2, h3⟩ := id hb
    have hi := tL_in (f := tlet) (B := B) (show q ≤ m by omega)
    obtain ⟨b1, b2, -⟩ := h3 (q + j) (by omega)
    have hl := tL_at (f := tlet) (B := B) (q := q) (m := m) (j := j) (by omega)
    have hl' : 97 ≤ B (q + j) ∧ B (q + j) ≤ 122 := by unfold tlet at hl; simpa using hl
    rw [fX4_takeWord_L5, e1, h2]
    simp (disch := omega) only [iN_lit, iN_add, iN_sub, iN_mul, iN_neg, iN_lt, iN_eq, iN_tn, if_true, if_false, if_pos, if_neg]
    rw [cl_byte hb (by omega), Option.bind_some, ite_n (by rw [cl_let b1 b2]; exact fun z => z hl), Option.bind_some]
    have hw : fX4_withLetter (J 16 8) (iN (B (q + j))) = iL (c27 (tlst B (j + 1) q)) := by
      unfold fX4_withLetter
      simp only [iN_lit, iN_sub, iN_add]
      rw [e2, iN_L (by omega) (by omega), iL_lit, iL_mul, iL_add, tlst_s, c27_s]
      congr 1
      show c27 (tlst B j q) * 27 + (B (q + j) - 97 + 1) = _
      omega
    rw [hw]
    have hb' : cb B m (mm_up I 16 4 (iN ((q + j : Nat) + 1))) := by
      refine ⟨h1, by rw [up_k (by omega)]; exact h2, fun k hk => ?_⟩
      rw [up_a (by omega)]; exact h3 k hk
    obtain ⟨I', J', g1, g2, g3, g4, g5⟩ := ih n (j + 1) (mm_up I 16 4 (iN ((q + j : Nat) + 1))) (mm_up J 16 8 (iL (c27 (tlst B (j + 1) q)))) hb' (by omega) hq (by omega) (by rw [up_eq]; congr 1) up_eq
    refine ⟨I', J', g1, g2, g3, fun a k hk => ?_, fun a k hk => ?_⟩
    · rw [g4 a k hk]
      show (if a = 16 ∧ k = 4 then _ else I a k) = I a k
      rw [if_neg hk]
    · rw [g5 a k hk]
      show (if a = 16 ∧ k = 8 then _ else J a k) = J a k
      rw [if_neg hk]
theorem cl_nl : ∀ (d n j : Nat) (I : (Nat → Nat → Int32)), cb B m I → j + d = tL tdig B m q → q < m → d < n → I 16 4 = iN ((q + j : Nat) : Int) → I 16 6 = iN (tval (tlst B j q)) →
    ∃ I', fX4_takeNumber_L5 n I = some I' ∧ I' 16 4 = iN ((q + tL tdig B m q : Nat) : Int) ∧ I' 16 6 = iN (tval (tlst B (tL tdig B m q) q)) ∧ (∀ a k, ¬ (a = 16 ∧ (k = 4 ∨ k = 6)) → I' a k = I a k) := by
  intro d
  induction d with
  | zero =>
    intro n j I hb hj hq hn e1 e2
    obtain ⟨n, rfl⟩ : ∃ k, n = k + 1 := ⟨n - 1, by omega⟩
    obtain ⟨h1, h2, h3⟩ := id hb
    have hj : j = tL tdig B m q := by omega
    have hi := tL_in (f := tdig) (B := B) (show q ≤ m by omega)
    refine ⟨I, ?_, by rw [e1, hj], by rw [e2, hj], fun _ _ _ => rfl⟩
    rw [fX4_takeNumber_L5, e1, h2]
    by_cases hm : q + j < m
    · obtain ⟨b1, b2, -⟩ := h3 (q + j) hm
      have := tL_end (f := tdig) (B := B) (q := q) (m := m) (by omega)
      rw [← hj] at this
      simp (disch := omega) only [iN_lit, iN_add, iN_sub, iN_mul, iN_neg, iN_lt, iN_eq, iN_tn, if_true, if_false, if_pos, if_neg]
      rw [cl_byte hb hm, Option.bind_some, ite_p (by rw [cl_dig b1 b2]; exact this)]
    · simp (disch := omega) only [iN_lit, iN_add, iN_sub, iN_mul, iN_neg, iN_lt, iN_eq, iN_tn, if_true, if_false, if_pos, if_neg]
  | succ d ih =>
    intro n j I hb hj hq hn e1 e2
    obtain ⟨n, rfl⟩ : ∃ k, n = k + 1 := ⟨n - 1, by omega⟩
    obtain ⟨h1, h2, h3⟩ := id hb
    have hi := tL_in (f := tdig) (B := B) (show q ≤ m by omega)
    obtain ⟨b1, b2, -⟩ := h3 (q + j) (by omega)
    have hl := tL_at (f := tdig) (B := B) (q := q) (m := m) (j := j) (by omega)
    rw [fX4_takeNumber_L5, e1, h2]
    simp (disch := omega) only [iN_lit, iN_add, iN_sub, iN_mul, iN_neg, iN_lt, iN_eq, iN_tn, if_true, if_false, if_pos, if_neg]
    rw [cl_byte hb (by omega), Option.bind_some, ite_n (by rw [cl_dig b1 b2]; exact fun z => z hl), Option.bind_some, e2]
    simp only [iN_add, iN_sub, iN_mul]
    have hv : tval (tlst B j q) * 10 + (B (q + j) - 48) = tval (tlst B (j + 1) q) := by rw [tlst_s, tval_s]; omega
    rw [hv]
    have hb' : cb B m (mm_up (mm_up I 16 6 (iN (tval (tlst B (j + 1) q)))) 16 4 (iN ((q + j : Nat) + 1))) := by
      refine ⟨h1, by rw [up_k (by omega), up_k (by omega)]; exact h2, fun k hk => ?_⟩
      rw [up_a (by omega), up_a (by omega)]; exact h3 k hk
    obtain ⟨I', g1, g2, g3, g4⟩ := ih n (j + 1) _ hb' (by omega) hq (by omega) (by rw [up_eq]; congr 1) (by rw [up_k (by omega), up_eq])
    refine ⟨I', g1, g2, g3, fun a k hk => ?_⟩
    rw [g4 a k hk]
    by_cases ha : a = 16
    · subst ha
      rw [up_k (by omega), up_k (by omega)]
    · rw [up_a ha, up_a ha]
theorem sg_st (n k : Nat) (hk : k < 11) (y : Int32) : fJ1_indexOfChar_x4_L7 (n + 1) (iN 11) y (iN k) = if mm_sb2.getD k 0 = y then some (.inl (iN k)) else fJ1_indexOfChar_x4_L7 n (iN 11) y (iN ((k + 1 : Nat) : Int)) := by
  rw [fJ1_indexOfChar_x4_L7]
  have : mm_sb2.length = 11 := rfl
  rw [this]
  simp only [iN_lit]
  rw [ite_p (by rw [iN_lt (by omega) (by omega) (by omega) (by omega)]; omega), ite_n (by rw [iN_lt (by omega) (by omega) (by omega) (by omega), iN_tn (by omega) (by omega)]; omega), iN_tn (by omega) (by omega), show ((k : Int)).toNat = k by omega, iN_add]
  rfl
theorem sg_go (y : Int32) : ∀ (d k n : Nat), k + d = 11 → d < n → (∃ j : Nat, j < 11 ∧ mm_sb2.getD j 0 = y ∧ fJ1_indexOfChar_x4_L7 n (iN 11) y (iN k) = some (.inl (iN j))) ∨ ((∀ j, k ≤ j → j < 11 → ¬ mm_sb2.getD j 0 = y) ∧ fJ1_indexOfChar_x4_L7 n (iN 11) y (iN k) = some (.inr ())) := by
  intro d
  induction d with
  | zero =>
    intro k n hk hn
    obtain ⟨n, rfl⟩ : ∃ k, n = k + 1 := ⟨n - 1, by omega⟩
    right
    refine ⟨fun j a b => by omega, ?_⟩
    rw [fJ1_indexOfChar_x4_L7]
    simp (disch := omega) only [iN_lit, iN_add, iN_sub, iN_mul, iN_neg, iN_lt, iN_eq, iN_tn, if_true, if_false, if_pos, if_neg]
  | succ d ih =>
    intro k n hk hn
    obtain ⟨n, rfl⟩ : ∃ k, n = k + 1 := ⟨n - 1, by omega⟩
    rw [sg_st n k (by omega)]
    by_cases e : mm_sb2.getD k 0 = y
    · left; exact ⟨k, by omega, e, by rw [if_pos e]⟩
    · rw [if_neg e]
      rcases ih (k + 1) n (by omega) (by omega) with ⟨j, a, b, c⟩ | ⟨a, b⟩
      · left; exact ⟨j, a, b, c⟩
      · right
        refine ⟨fun j c d => ?_, b⟩
        by_cases hj : j = k
        · rw [hj]; exact e
        · exact a j (by omega) d
theorem sg_b : ∀ b : Fin 256, ((iN (b.val : Int)).toUInt32 % 65536).toInt32 = iN (b.val : Int) ∧ (tsig (b.val : Int) = true ↔ ∃ j : Fin 11, mm_sb2.getD j.val 0 = (iN (b.val : Int)).toInt8.toInt32) := by decide +kernel
theorem cl_sig {b : Int} (h1 : 0 ≤ b) (h2 : b < 256) {n : Nat} (hn : 20 ≤ n) : ∃ z : Int, fJ0_indexOf_x2 n ((iN b).toUInt32 % 65536).toInt32 = some (iN z) ∧ (z < 0 ↔ ¬ tsig b = true) ∧ -1 ≤ z ∧ z < 11 := by
  have hb := sg_b ⟨b.toNat, by omega⟩
  have e : ((b.toNat : Nat) : Int) = b := by omega
  simp only [e] at hb
  obtain ⟨g1, g2⟩ := hb
  rw [g1]
  unfold fJ0_indexOf_x2 fJ0_indexOf_x2' fJ1_indexOf_x4 fJ1_canEncode fJ1_indexOfChar_x4
  have e1 : fJ9_max (0 : Int32) 0 = iN 0 := by decide
  have e2 : fJ9_min fJ0_length_x2 11 = iN 11 := by decide
  rw [e1, e2]
  simp (disch := omega) only [iN_lit, iN_add, iN_sub, iN_mul, iN_neg, iN_lt, iN_eq, iN_tn, if_true, if_false, if_pos, if_neg]
  rcases sg_go (iN b).toInt8.toInt32 11 0 n (by omega) (by omega) with ⟨j, a, c, d⟩ | ⟨a, d⟩
  · refine ⟨j, ?_, ?_, by omega, by omega⟩
    · have : fJ1_indexOfChar_x4_L7 n (iN 11) (iN b).toInt8.toInt32 (iN 0) = some (.inl (iN j)) := d
      rw [this]; rfl
    · have : tsig b = true := g2.mpr ⟨⟨j, a⟩, c⟩
      constructor
      · intro; omega
      · intro h; exact absurd this h
  · refine ⟨-1, ?_, ?_, by omega, by omega⟩
    · have : fJ1_indexOfChar_x4_L7 n (iN 11) (iN b).toInt8.toInt32 (iN 0) = some (.inr ()) := d
      rw [this]; rfl
    · constructor
      · intro _ h
        obtain ⟨j, hj⟩ := g2.mp h
        exact a j.val (by omega) j.isLt hj
      · intro; omega
theorem cl_own (h : cw J) {w : List Int} (hw : wrd w) : ∀ (d k n : Nat), k + d = 19 → d < n → (fX4_ownWord_L2 n (iL (c27 w)) (iN k) J).bind (fun o => (match o with | .inl va => some va | .inr vb => some (-1))) = some (iN (ownR d w k)) := by
  intro d
  induction d with
  | zero =>
    intro k n hk hn
    obtain ⟨n, rfl⟩ : ∃ k, n = k + 1 := ⟨n - 1, by omega⟩
    rw [fX4_ownWord_L2]
    simp (disch := omega) only [iN_lit, iN_add, iN_sub, iN_mul, iN_neg, iN_lt, iN_eq, iN_tn, if_true, if_false, if_pos, if_neg]
    rfl
  | succ d ih =>
    intro k n hk hn
    obtain ⟨n, rfl⟩ : ∃ k, n = k + 1 := ⟨n - 1, by omega⟩
    rw [fX4_ownWord_L2]
    simp only [iN_lit]
    rw [ite_p (by rw [iN_lt (by omega) (by omega) (by omega) (by omega)]; omega), ite_n (by rw [iN_lt (by omega) (by omega) (by omega) (by omega), iN_tn (by omega) (by omega)]; omega), iN_tn (by omega) (by omega), show ((k : Int)).toNat = k by omega, h k (by omega), ownR, iN_add]
    by_cases e : ownI k = w
    · rw [if_pos e, ite_p (by rw [lgc, e])]; rfl
    · rw [if_neg e, ite_n (by
        rw [lgc]
        intro z
        have h1 := c27_in (ownI_wrd ⟨k, by omega⟩)
        have h2 := c27_in hw
        have h3 := iL_inj h1.1 (by omega) h2.1 (by omega) z
        exact e (c27_inj (ownI_wrd ⟨k, by omega⟩) hw h3))]
      exact ih (k + 1) n (by omega) (by omega)
theorem cl_adv (hb : cb B m I) (hw : cw J) (hp : p ≤ m) (h4 : I 16 4 = iN p) {n : Nat} (hn : 1700 ≤ n) : ∃ I' J', fX4_advance n I J = some (I', J') ∧ cT B m p I' J' ∧ xk I I' ∧ xJ J J' := by
  have hm := hb.1
  have hq := tP_in (B := B) hp
  rw [fX4_advance, h4, cl_blank hb (m - p) n p (by omega) (by omega), Option.bind_some]
  have eq : p + trun tbl0 B (m - p) p = tP B m p := rfl
  rw [eq, fX4_advance_J39, hb.2.1]
  simp only [iN_lit, iN_neg]
  have hx0 : xk I (mm_up (mm_up (mm_up I 16 3 (iN (tP B m p : Nat))) 16 4 (iN (tP B m p : Nat))) 16 7 (iN (-1))) := by
    intro a k hk
    by_cases ha : a = 16
    · subst ha; rw [up_k (by omega), up_k (by omega), up_k (by omega)]
    · rw [up_a ha, up_a ha, up_a ha]
  have hb0 := cb_xk hb hx0
  have e3 : (mm_up (mm_up (mm_up I 16 3 (iN (tP B m p : Nat))) 16 4 (iN (tP B m p : Nat))) 16 7 (iN (-1))) 16 3 = iN (tP B m p : Nat) := by rw [up_k (by omega), up_k (by omega), up_eq]
  have e4 : (mm_up (mm_up (mm_up I 16 3 (iN (tP B m p : Nat))) 16 4 (iN (tP B m p : Nat))) 16 7 (iN (-1))) 16 4 = iN (tP B m p : Nat) := by rw [up_k (by omega), up_eq]
  have e7 : (mm_up (mm_up (mm_up I 16 3 (iN (tP B m p : Nat))) 16 4 (iN (tP B m p : Nat))) 16 7 (iN (-1))) 16 7 = iN (-1) := up_eq
  generalize mm_up (mm_up (mm_up I 16 3 (iN (tP B m p : Nat))) 16 4 (iN (tP B m p : Nat))) 16 7 (iN (-1)) = I0 at hx0 hb0 e3 e4 e7 ⊢
  have xu : ∀ (M : (Nat → Nat → Int32)) (k : Nat) (x : Int32), 3 ≤ k ∧ k ≤ 7 → xk M (mm_up M 16 k x) := by
    intro M k x hk a j hj
    show (if a = 16 ∧ j = k then x else M a j) = M a j
    rw [if_neg (by omega)]
  by_cases h0 : tP B m p < m
  · rw [ite_p (by rw [iN_lt (by omega) (by omega) (by omega) (by omega)]; omega), cl_byte hb0 h0, Option.bind_some]
    obtain ⟨b1, b2, -⟩ := hb0.2.2 _ h0
    have hnm : ¬ m ≤ tP B m p := by omega
    by_cases h1 : tlet (B (tP B m p)) = true
    · have ec : (fX4_isLetter (iN (B (tP B m p))) = iN 0) = False := by rw [cl_let b1 b2]; simp [h1]
      rw [ite_n (by rw [ec]; exact id), fX4_takeWord]
      obtain ⟨I1, J1, g1, g2, g3, g4, g5⟩ := cl_wl (q := tP B m p) hb0 (tL tlet B m (tP B m p)) n 0 I0 (mm_up J 16 8 0) hb0 (by omega) h0 (by have := tL_in (f := tlet) (B := B) (show tP B m p ≤ m by omega); omega) e4 up_eq
      have g1' : fX4_takeWord_L5 n I0 (mm_up J 16 8 0) = some (I1, J1) := g1
      rw [g1', Option.bind_some]
      dsimp only
      rw [fX4_takeWord_J62, g2, g4 16 3 (by omega), e3]
      have hxJ : xJ J J1 := fun a k hk => by
        rw [g5 a k hk]
        show (if a = 16 ∧ k = 8 then _ else J a k) = J a k
        rw [if_neg hk]
      have hx1 : xk I I1 := xk_trans hx0 (fun a k hk => g4 a k (by omega))
      have hN : tN B m p = tP B m p + tL tlet B m (tP B m p) := by unfold tN tNq; rw [if_neg hnm, if_pos h1]
      have hLm := tL_in (f := tlet) (B := B) (show tP B m p ≤ m by omega)
      simp only [iN_lit, iN_sub]
      by_cases h8 : 8 < tL tlet B m (tP B m p)
      · have hK : tK B m p = 4 := by unfold tK tKq; rw [if_neg hnm, if_pos h1, if_pos h8]
        rw [ite_p (by rw [iN_lt (by omega) (by omega) (by omega) (by omega)]; omega), fX4_takeWord_J82, ite_n (by decide), Option.bind_some]
        dsimp only
        refine ⟨_, _, rfl, ⟨hp, ?_, cw_xJ hw hxJ, ?_, ?_, ?_, ?_, ?_, ?_⟩, ?_, hxJ⟩
        · exact cb_xk hb (xk_trans hx1 (xk_trans (xu _ 5 _ (by omega)) (xu _ 7 _ (by omega))))
        · rw [up_k (by omega), up_k (by omega), g4 16 3 (by omega), e3]
        · rw [up_k (by omega), up_eq, hK]
        · rw [up_k (by omega), up_k (by omega), g2, hN]
        · intro h; omega
        · rw [up_eq]; unfold tO; rw [if_neg (by omega)]; rfl
        · intro h; omega
        · exact xk_trans hx1 (xk_trans (xu _ 5 _ (by omega)) (xu _ 7 _ (by omega)))
      · have hK : tK B m p = 1 := by unfold tK tKq; rw [if_neg hnm, if_pos h1, if_neg h8]
        have hwd := tW_wrd hK
        rw [ite_n (by rw [iN_lt (by omega) (by omega) (by omega) (by omega)]; omega), fX4_takeWord_J82, ite_p (by decide)]
        have ho : fX4_ownWord n (J1 16 8) J1 = some (iN (ownF (tW B m p))) := by
          rw [fX4_ownWord, g3]
          exact cl_own (cw_xJ hw hxJ) hwd 19 0 n (by omega) (by omega)
        rw [ho, Option.bind_some, Option.bind_some]
        dsimp only
        refine ⟨_, _, rfl, ⟨hp, ?_, cw_xJ hw hxJ, ?_, ?_, ?_, ?_, ?_, ?_⟩, ?_, hxJ⟩
        · exact cb_xk hb (xk_trans hx1 (xk_trans (xu _ 5 _ (by omega)) (xu _ 7 _ (by omega))))
        · rw [up_k (by omega), up_k (by omega), g4 16 3 (by omega), e3]
        · rw [up_k (by omega), up_eq, hK]
        · rw [up_k (by omega), up_k (by omega), g2, hN]
        · intro h; omega
        · rw [up_eq]; unfold tO; rw [if_pos hK]
        · intro _; exact g3
        · exact xk_trans hx1 (xk_trans (xu _ 5 _ (by omega)) (xu _ 7 _ (by omega)))
    · have ec : (fX4_isLetter (iN (B (tP B m p))) = iN 0) = True := by rw [cl_let b1 b2]; simp [h1]
      rw [ite_p (by rw [ec]; exact trivial), Option.bind_some]
      by_cases h2 : tdig (B (tP B m p)) = true
      · have ed : (fX4_isDigit (iN (B (tP B m p))) = iN 0) = False := by rw [cl_dig b1 b2]; simp [h2]
        rw [ite_n (by rw [ed]; exact id), fX4_takeNumber]
        have hb6 : cb B m (mm_up I0 16 6 0) := cb_xk hb0 (xu _ 6 _ (by omega))
        obtain ⟨I1, g1, g2, g3, g4⟩ := cl_nl (q := tP B m p) (tL tdig B m (tP B m p)) n 0 (mm_up I0 16 6 0) hb6 (by omega) h0 (by have := tL_in (f := tdig) (B := B) (show tP B m p ≤ m by omega); omega) (by rw [up_k (by omega)]; exact e4) up_eq
        rw [g1, Option.bind_some]
        have hx1 : xk I I1 := xk_trans hx0 (xk_trans (xu _ 6 0 (by omega)) (fun a k hk => g4 a k (by omega)))
        have hb1 := cb_xk hb hx1
        have hN : tN B m p = tP B m p + tL tdig B m (tP B m p) := by unfold tN tNq; rw [if_neg hnm, if_neg h1, if_pos h2]
        have hLm := tL_in (f := tdig) (B := B) (show tP B m p ≤ m by omega)
        have i3 : I1 16 3 = iN (tP B m p : Nat) := by rw [g4 16 3 (by omega), up_k (by omega), e3]
        have i7 : I1 16 7 = iN (-1) := by rw [g4 16 7 (by omega), up_k (by omega), e7]
        have fin : ∀ K : Int, tK B m p = K → ¬ K = 1 → cT B m p (mm_up I1 16 5 (iN K)) J ∧ xk I (mm_up I1 16 5 (iN K)) := by
          intro K hK hK1
          refine ⟨⟨hp, ?_, hw, ?_, ?_, ?_, ?_, ?_, ?_⟩, xk_trans hx1 (xu _ 5 _ (by omega))⟩
          · exact cb_xk hb (xk_trans hx1 (xu _ 5 _ (by omega)))
          · rw [up_k (by omega), i3]
          · rw [up_eq, hK]
          · rw [up_k (by omega), g2, hN]
          · intro _; rw [up_k (by omega), g3]; rfl
          · rw [up_k (by omega), i7]; unfold tO; rw [if_neg (by omega)]
          · intro h; omega
        have J96 : ∀ u : Int32, fX4_takeNumber_J96 u I1 = if 4 < tL tdig B m (tP B m p) then some (mm_up I1 16 5 (iN 4)) else if u = iN 0 then some (mm_up I1 16 5 (iN 2)) else some (mm_up I1 16 5 (iN 4)) := by
          intro u
          rw [fX4_takeNumber_J96, g2, i3]
          simp only [iN_lit, iN_sub]
          by_cases h : 4 < tL tdig B m (tP B m p)
          · rw [if_pos h, ite_p (by rw [iN_lt (by omega) (by omega) (by omega) (by omega)]; omega)]
          · rw [if_neg h, ite_n (by rw [iN_lt (by omega) (by omega) (by omega) (by omega)]; omega)]
        have hKd : tK B m p = if 4 < tL tdig B m (tP B m p) then 4 else if tP B m p + tL tdig B m (tP B m p) < m ∧ tlet (B (tP B m p + tL tdig B m (tP B m p))) = true then 4 else 2 := by
          unfold tK tKq; rw [if_neg hnm, if_neg h1, if_pos h2]
        have key : ∃ K : Int, fX4_takeNumber_J66 I1 = some (mm_up I1 16 5 (iN K)) ∧ tK B m p = K ∧ ¬ K = 1 := by
          rw [fX4_takeNumber_J66, g2, hb1.2.1]
          by_cases hend : tP B m p + tL tdig B m (tP B m p) < m
          · obtain ⟨d1, d2, -⟩ := hb1.2.2 _ hend
            rw [ite_p (by rw [iN_lt (by omega) (by omega) (by omega) (by omega)]; omega), cl_byte hb1 hend, Option.bind_some]
            simp only [iN_lit]
            by_cases hl : tlet (B (tP B m p + tL tdig B m (tP B m p))) = true
            · rw [ite_n (by rw [cl_let d1 d2]; exact fun z => z hl), J96]
              by_cases h : 4 < tL tdig B m (tP B m p)
              · exact ⟨4, by rw [if_pos h], by rw [hKd, if_pos h], by omega⟩
              · exact ⟨4, by rw [if_neg h, ite_n (by decide)], by rw [hKd, if_neg h, if_pos ⟨hend, hl⟩], by omega⟩
            · rw [ite_p (by rw [cl_let d1 d2]; exact hl), fX4_takeNumber_J95, J96]
              by_cases h : 4 < tL tdig B m (tP B m p)
              · exact ⟨4, by rw [if_pos h], by rw [hKd, if_pos h], by omega⟩
              · exact ⟨2, by rw [if_neg h, ite_p (by decide)], by rw [hKd, if_neg h, if_neg (fun z => hl z.2)], by omega⟩
          · rw [ite_n (by rw [iN_lt (by omega) (by omega) (by omega) (by omega)]; omega), fX4_takeNumber_J95, J96]
            by_cases h : 4 < tL tdig B m (tP B m p)
            · exact ⟨4, by rw [if_pos h], by rw [hKd, if_pos h], by omega⟩
            · exact ⟨2, by rw [if_neg h, ite_p (by decide)], by rw [hKd, if_neg h, if_neg (fun z => hend z.1)], by omega⟩
        obtain ⟨K, k1, k2, k3⟩ := key
        obtain ⟨f1, f2⟩ := fin K k2 k3
        rw [k1, Option.bind_some]
        exact ⟨_, _, rfl, f1, f2, xJ_refl⟩
      · have ed : (fX4_isDigit (iN (B (tP B m p))) = iN 0) = True := by rw [cl_dig b1 b2]; simp [h2]
        rw [ite_p (by rw [ed]; exact trivial), Option.bind_some]
        obtain ⟨z, z1, z2, z3, z4⟩ := cl_sig b1 b2 (n := n) (by omega)
        rw [z1, Option.bind_some]
        have hN : tN B m p = tP B m p + 1 := by unfold tN tNq; rw [if_neg hnm, if_neg h1, if_neg h2]
        have fin : ∀ K : Int, tK B m p = K → ¬ K = 1 → ¬ K = 2 → cT B m p (mm_up (mm_up I0 16 5 (iN K)) 16 4 (iN (tP B m p : Nat) + iN 1)) J ∧ xk I (mm_up (mm_up I0 16 5 (iN K)) 16 4 (iN (tP B m p : Nat) + iN 1)) := by
          intro K hK hK1 hK2
          refine ⟨⟨hp, ?_, hw, ?_, ?_, ?_, ?_, ?_, ?_⟩, xk_trans hx0 (xk_trans (xu _ 5 _ (by omega)) (xu _ 4 _ (by omega)))⟩
          · exact cb_xk hb (xk_trans hx0 (xk_trans (xu _ 5 _ (by omega)) (xu _ 4 _ (by omega))))
          · rw [up_k (by omega), up_k (by omega), e3]
          · rw [up_k (by omega), up_eq, hK]
          · rw [up_eq, hN, iN_add]; congr 1
          · intro h; omega
          · rw [up_k (by omega), up_k (by omega), e7]; unfold tO; rw [if_neg (by omega)]
          · intro h; omega
        by_cases h3 : tsig (B (tP B m p)) = true
        · rw [ite_n (by rw [iN_lt (by omega) (by omega) (by omega) (by omega)]; intro c; exact z2.mp c h3), fX4_advance_J126]
          have hK : tK B m p = 3 := by unfold tK tKq; rw [if_neg hnm, if_neg h1, if_neg h2, if_pos h3]
          obtain ⟨f1, f2⟩ := fin 3 hK (by omega) (by omega)
          exact ⟨_, _, rfl, f1, f2, xJ_refl⟩
        · rw [ite_p (by rw [iN_lt (by omega) (by omega) (by omega) (by omega)]; exact z2.mpr h3), fX4_advance_J126]
          have hK : tK B m p = 4 := by unfold tK tKq; rw [if_neg hnm, if_neg h1, if_neg h2, if_neg h3]
          obtain ⟨f1, f2⟩ := fin 4 hK (by omega) (by omega)
          exact ⟨_, _, rfl, f1, f2, xJ_refl⟩
  · rw [ite_n (by rw [iN_lt (by omega) (by omega) (by omega) (by omega)]; omega)]
    have hK : tK B m p = 0 := by unfold tK tKq; rw [if_pos (by omega)]
    have hN : tN B m p = tP B m p := by unfold tN tNq; rw [if_pos (by omega)]
    refine ⟨_, _, rfl, ⟨hp, ?_, hw, ?_, ?_, ?_, ?_, ?_, ?_⟩, xk_trans hx0 (xu _ 5 _ (by omega)), xJ_refl⟩
    · exact cb_xk hb (xk_trans hx0 (xu _ 5 _ (by omega)))
    · rw [up_k (by omega), e3]
    · rw [up_eq, hK]
    · rw [up_k (by omega), e4, hN]
    · intro h; omega
    · rw [up_k (by omega), e7]; unfold tO; rw [if_neg (by omega)]
    · intro h; omega
/-- what comes behind the token here -/
theorem cl_next_t (h : cT B m p I J) {n : Nat} (hn : 1700 ≤ n) : ∃ I' J', fX4_advance n I J = some (I', J') ∧ cT B m (tN B m p) I' J' ∧ xk I I' ∧ xJ J J' := by
  obtain ⟨h1, h2, h3, -, -, h6, -⟩ := h
  exact cl_adv h2 h3 (tN_in h1).1 h6 hn
end TCL
