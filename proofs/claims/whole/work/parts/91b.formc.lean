/-! THE FORMULA as the class reads it, held against the stack. -/
def cF (r : Nat) (out : List Int) (u : Int) (I : (Nat → Nat → Int32)) : Prop := I (r + 1) 3 = iN out.length ∧ I (r + 1) 4 = iN u ∧ ∀ z : Nat, z < out.length → I (r + 2) z = iN (out.getD z 0)
def xq (e r : Nat) (I I' : (Nat → Nat → Int32)) : Prop := ∀ a k, ¬ (a = 16 ∧ ((3 ≤ k ∧ k ≤ 7) ∨ (e = 1 ∧ (k = 11 ∨ k = 12)))) → ¬ (a = r + 1 ∧ (k = 3 ∨ k = 4)) → ¬ a = r + 2 → I' a k = I a k
def cFl (B : Nat → Int) (m q : Nat) (j : Int) (I : (Nat → Nat → Int32)) : Prop := I 16 11 = iN (if tK B m q = 4 then 1 else j) ∧ I 16 12 = iN (tP B m q : Nat)
def exq (B : Nat → Int) (m : Nat) (lev : Int) (s : List Int) (p : Nat) : Prop := (-17 ≤ ft B m p ∧ ft B m p ≤ -8) → tg (ft B m p) < lev ∨ (tg (ft B m p) = 4 ∧ hasR s = true)
theorem xq_refl {e r : Nat} {I : (Nat → Nat → Int32)} : xq e r I I := fun _ _ _ _ _ => rfl
theorem xq_trans {e r : Nat} {I I' I'' : (Nat → Nat → Int32)} (h : xq 0 r I I') (h' : xq e r I' I'') : xq e r I I'' := fun a k h1 h2 h3 => by rw [h' a k h1 h2 h3, h a k (by omega) h2 h3]
theorem xq_k {e r : Nat} {I I' : (Nat → Nat → Int32)} (h : xk I I') : xq e r I I' := fun a k h1 _ _ => h a k (by omega)
section FCL
variable {B : Nat → Int} {m p r : Nat} {I : (Nat → Nat → Int32)} {J : mJ} {out : List Int} {u : Int}
theorem cT_of (hr0 : r = 3 ∨ r = 19) (h : cT B m p I J) {I' : (Nat → Nat → Int32)} (e : ∀ a k, ¬ (r ≤ a ∧ a ≤ r + 12) → ¬ (a = 16 ∧ (k = 9 ∨ k = 11 ∨ k = 12)) → I' a k = I a k) {J' : mJ} (e' : ∀ a k, ¬ (r ≤ a ∧ a ≤ r + 12) → J' a k = J a k) : cT B m p I' J' := by
  obtain ⟨h1, ⟨b1, b2, b3⟩, h3, h4, h5, h6, h7, h8, h9⟩ := h
  refine ⟨h1, ⟨b1, by rw [e 16 2 (by omega) (by omega)]; exact b2, fun k hk => by rw [e 2 k (by omega) (by omega)]; exact b3 k hk⟩, fun k hk => by rw [e' 17 k (by omega)]; exact h3 k hk, ?_, ?_, ?_, ?_, ?_, ?_⟩
  · rw [e 16 3 (by omega) (by omega)]; exact h4
  · rw [e 16 5 (by omega) (by omega)]; exact h5
  · rw [e 16 4 (by omega) (by omega)]; exact h6
  · rw [e 16 6 (by omega) (by omega)]; exact h7
  · rw [e 16 7 (by omega) (by omega)]; exact h8
  · rw [e' 16 8 (by omega)]; exact h9
theorem cF_k (hr0 : r = 3 ∨ r = 19) (h : cF r out u I) {I' : (Nat → Nat → Int32)} (e : xk I I') : cF r out u I' := by
  obtain ⟨h1, h2, h3⟩ := h
  exact ⟨by rw [e _ _ (by omega)]; exact h1, by rw [e _ _ (by omega)]; exact h2, fun z hz => by rw [e _ _ (by omega)]; exact h3 z hz⟩
theorem tO_word {k : Int} (hk : 0 ≤ k) : (tO B m p = k) ↔ (tK B m p = 1 ∧ tO B m p = k) := by
  constructor
  · intro h
    by_cases h1 : tK B m p = 1
    · exact ⟨h1, h⟩
    · unfold tO at h; rw [if_neg h1] at h; omega
  · exact fun h => h.2
theorem cl_isw (h : cT B m p I J) {k : Int} (hk : 0 ≤ k ∧ k < 100) : fX4_isWord (iN k) I = if tO B m p = k then iN 1 else iN 0 := by
  obtain ⟨h1, h2, h3, h4, h5, h6, h7, h8, h9⟩ := h
  have hO := tO_in B m p
  have hK : tK B m p = 0 ∨ tK B m p = 1 ∨ tK B m p = 2 ∨ tK B m p = 3 ∨ tK B m p = 4 := tKq_in
  rw [fX4_isWord, h5, h8]
  simp only [iN_lit]
  by_cases e : tO B m p = k
  · obtain ⟨e1, e2⟩ := (tO_word hk.1).mp e
    rw [if_pos e, ite_p (by rw [e1]), ite_p (by rw [e])]
  · rw [if_neg e]
    by_cases e1 : tK B m p = 1
    · rw [ite_p (by rw [e1]), ite_n (by rw [iN_eq (by omega) (by omega) (by omega) (by omega)]; exact e)]
    · rw [ite_n (by rw [iN_eq (by omega) (by omega) (by omega) (by omega)]; exact e1)]
theorem cl_iss (h : cT B m p I J) {c : Int} (hc : 0 ≤ c ∧ c < 256) : fX4_isSign (iN c) I = some (if tK B m p = 3 ∧ B (tP B m p) = c then iN 1 else iN 0) := by
  obtain ⟨h1, h2, h3, h4, h5, h6, h7, h8, h9⟩ := h
  have hK : tK B m p = 0 ∨ tK B m p = 1 ∨ tK B m p = 2 ∨ tK B m p = 3 ∨ tK B m p = 4 := tKq_in
  rw [fX4_isSign, h5, h4]
  simp only [iN_lit]
  by_cases e1 : tK B m p = 3
  · have hlt := ((tN_in (B := B) h1).2.2 (by omega)).1
    have hb := h2.2.2 _ hlt
    rw [ite_p (by rw [e1]), cl_byte h2 hlt, Option.bind_some]
    by_cases e2 : B (tP B m p) = c
    · rw [ite_p (by rw [e2]), if_pos ⟨e1, e2⟩]
    · rw [ite_n (by rw [iN_eq (by omega) (by omega) (by omega) (by omega)]; exact e2), if_neg (fun z => e2 z.2)]
  · rw [ite_n (by rw [iN_eq (by omega) (by omega) (by omega) (by omega)]; exact e1), if_neg (fun z => e1 z.1)]
theorem cl_ref (h : cT B m p I J) (j : Int) : ∃ I', fX4_refuse (iN j) I = (iN 0, I') ∧ cFl B m p j I' ∧ (∀ a k, ¬ (a = 16 ∧ (k = 11 ∨ k = 12)) → I' a k = I a k) := by
  obtain ⟨h1, h2, h3, h4, h5, h6, h7, h8, h9⟩ := h
  have hK : tK B m p = 0 ∨ tK B m p = 1 ∨ tK B m p = 2 ∨ tK B m p = 3 ∨ tK B m p = 4 := tKq_in
  have fr : ∀ x y : Int32, ∀ a k, ¬ (a = 16 ∧ (k = 11 ∨ k = 12)) → (mm_up (mm_up I 16 11 x) 16 12 y) a k = I a k := by
    intro x y a k hk
    by_cases ha : a = 16
    · subst ha; rw [up_k (by omega), up_k (by omega)]
    · rw [up_a ha, up_a ha]
  rw [fX4_refuse, h5, h4]
  simp only [iN_lit]
  by_cases e : tK B m p = 4
  · rw [ite_p (by rw [e])]
    exact ⟨_, rfl, ⟨by rw [up_k (by omega), up_eq, if_pos e], up_eq⟩, fr _ _⟩
  · rw [ite_n (by rw [iN_eq (by omega) (by omega) (by omega) (by omega)]; exact e)]
    exact ⟨_, rfl, ⟨by rw [up_k (by omega), up_eq, if_neg e], up_eq⟩, fr _ _⟩
/-- refused, as it stands in the texts -/
theorem cl_rfs (h : cT B m p I J) (j : Int) : ∃ I', (if (fX4_refuse (iN j) I).1 = 0 ∨ (fX4_refuse (iN j) I).1 = 1 then some ((fX4_refuse (iN j) I).1, (fX4_refuse (iN j) I).2, J) else none) = some (iN 0, I', J) ∧ cFl B m p j I' ∧ (∀ a k, ¬ (a = 16 ∧ (k = 11 ∨ k = 12)) → I' a k = I a k) := by
  obtain ⟨I', e, h1, h2⟩ := cl_ref h j
  refine ⟨I', ?_, h1, h2⟩
  rw [e]
  exact if_pos (Or.inl rfl)
theorem cl_add0 (hr0 : r = 3 ∨ r = 19) (h : cF r out u I) (hl : out.length < 300) (c : Int) : ∃ I', fX0_add (iN c) (r + 1) I = some I' ∧ cF r (out ++ [c]) u I' ∧ (∀ a k, ¬ (a = r + 1 ∧ k = 3) → ¬ a = r + 2 → I' a k = I a k) := by
  obtain ⟨h1, h2, h3⟩ := h
  rw [fX0_add, h1]
  simp (disch := omega) only [iN_lit, iN_add, iN_sub, iN_mul, iN_neg, iN_lt, iN_eq, iN_tn, if_true, if_false, if_pos, if_neg]
  rw [show (((out.length : Nat) : Int)).toNat = out.length by omega]
  refine ⟨_, rfl, ⟨?_, ?_, ?_⟩, ?_⟩
  · rw [up_eq, List.length_append]; rfl
  · rw [up_k (by omega), up_a (by omega)]; exact h2
  · intro z hz
    rw [List.length_append] at hz
    have hz : z < out.length + 1 := hz
    rw [up_a (by omega), up_c]
    by_cases e : z = out.length
    · rw [if_pos e, gd_r e]
    · rw [if_neg e, gd_l (by omega)]; exact h3 z (by omega)
  · intro a k a1 a2
    by_cases ha : a = r + 1
    · subst ha; rw [up_k (by omega), up_a (by omega)]
    · rw [up_a ha, up_a a2]
end FCL
/-! Signs and words by ft -/
section FTS
variable {B : Nat → Int} {m p : Nat}
theorem ft_s1 {c k : Int} (h : (c = 60 ∧ k = -10) ∨ (c = 62 ∧ k = -11) ∨ (c = 61 ∧ k = -12) ∨ (c = 43 ∧ k = -13) ∨ (c = 45 ∧ k = -14) ∨ (c = 42 ∧ k = -15) ∨ (c = 47 ∧ k = -16) ∨ (c = 37 ∧ k = -17) ∨ (c = 40 ∧ k = 100000) ∨ (c = 41 ∧ k = 100001)) : (tK B m p = 3 ∧ B (tP B m p) = c) ↔ ft B m p = k := by
  constructor
  · rintro ⟨h1, h2⟩
    unfold ft
    rw [if_neg (by omega), if_neg (by omega), if_pos h1, h2]
    rcases h with ⟨rfl, rfl⟩ | ⟨rfl, rfl⟩ | ⟨rfl, rfl⟩ | ⟨rfl, rfl⟩ | ⟨rfl, rfl⟩ | ⟨rfl, rfl⟩ | ⟨rfl, rfl⟩ | ⟨rfl, rfl⟩ | ⟨rfl, rfl⟩ | ⟨rfl, rfl⟩ <;> rfl
  · intro e
    by_cases h2 : tK B m p = 2
    · rw [ft_num h2] at e; have := tV_in h2; omega
    · unfold ft at e
      rw [if_neg h2] at e
      by_cases h1 : tK B m p = 1
      · rw [if_pos h1] at e
        repeat' split at e
        all_goals omega
      · rw [if_neg h1] at e
        by_cases h3 : tK B m p = 3
        · rw [if_pos h3] at e
          refine ⟨h3, ?_⟩
          repeat' split at e
          all_goals omega
        · rw [if_neg h3] at e; omega
theorem ft_w1 {c k : Int} (h : (c = 15 ∧ k = -1) ∨ (c = 16 ∧ k = -2) ∨ (c = 4 ∧ k = -3) ∨ (c = 10 ∧ k = -4) ∨ (c = 17 ∧ k = -5) ∨ (c = 18 ∧ k = -6) ∨ (c = 14 ∧ k = -7) ∨ (c = 12 ∧ k = -8) ∨ (c = 13 ∧ k = -9)) : tO B m p = c ↔ ft B m p = k := by
  constructor
  · intro h2
    have h1 := ((tO_word (by omega)).mp h2).1
    unfold ft
    rw [if_neg (by omega), if_pos h1, h2]
    rcases h with ⟨rfl, rfl⟩ | ⟨rfl, rfl⟩ | ⟨rfl, rfl⟩ | ⟨rfl, rfl⟩ | ⟨rfl, rfl⟩ | ⟨rfl, rfl⟩ | ⟨rfl, rfl⟩ | ⟨rfl, rfl⟩ | ⟨rfl, rfl⟩ <;> rfl
  · intro e
    by_cases h2 : tK B m p = 2
    · rw [ft_num h2] at e; have := tV_in h2; omega
    · unfold ft at e
      rw [if_neg h2] at e
      by_cases h1 : tK B m p = 1
      · rw [if_pos h1] at e
        repeat' split at e
        all_goals omega
      · rw [if_neg h1] at e
        by_cases h3 : tK B m p = 3
        · rw [if_pos h3] at e
          repeat' split at e
          all_goals omega
        · rw [if_neg h3] at e; omega
def gv (k : Int) : Int := if k = 15 then -1 else if k = 16 then -2 else if k = 4 then -3 else if k = 10 then -4 else if k = 17 then -5 else if k = 18 then -6 else 0
theorem cl_gv0 : ∀ k : Fin 20, fX4_givenBy (iN ((k.val : Int) - 1)) = iN (gv ((k.val : Int) - 1)) := by decide +kernel
theorem cl_gv {k : Int} (h1 : -1 ≤ k) (h2 : k < 19) : fX4_givenBy (iN k) = iN (gv k) := by
  have := cl_gv0 ⟨(k + 1).toNat, by omega⟩
  simp only [show (((k + 1).toNat : Nat) : Int) - 1 = k by omega] at this
  exact this
/-- the given a word asks for -/
theorem gv_ft : gv (tO B m p) = if -6 ≤ ft B m p ∧ ft B m p ≤ -1 then ft B m p else 0 := by
  by_cases h : -6 ≤ ft B m p ∧ ft B m p ≤ -1
  · rw [if_pos h]
    have hh : ft B m p = -1 ∨ ft B m p = -2 ∨ ft B m p = -3 ∨ ft B m p = -4 ∨ ft B m p = -5 ∨ ft B m p = -6 := by omega
    rcases hh with e | e | e | e | e | e
    · have := (ft_w1 (c := 15) (by omega)).mpr e; rw [this, e]; rfl
    · have := (ft_w1 (c := 16) (by omega)).mpr e; rw [this, e]; rfl
    · have := (ft_w1 (c := 4) (by omega)).mpr e; rw [this, e]; rfl
    · have := (ft_w1 (c := 10) (by omega)).mpr e; rw [this, e]; rfl
    · have := (ft_w1 (c := 17) (by omega)).mpr e; rw [this, e]; rfl
    · have := (ft_w1 (c := 18) (by omega)).mpr e; rw [this, e]; rfl
  · rw [if_neg h]
    unfold gv
    rw [if_neg (fun e => by have := (ft_w1 (B := B) (m := m) (p := p) (c := 15) (k := -1) (by omega)).mp e; omega), if_neg (fun e => by have := (ft_w1 (B := B) (m := m) (p := p) (c := 16) (k := -2) (by omega)).mp e; omega), if_neg (fun e => by have := (ft_w1 (B := B) (m := m) (p := p) (c := 4) (k := -3) (by omega)).mp e; omega), if_neg (fun e => by have := (ft_w1 (B := B) (m := m) (p := p) (c := 10) (k := -4) (by omega)).mp e; omega), if_neg (fun e => by have := (ft_w1 (B := B) (m := m) (p := p) (c := 17) (k := -5) (by omega)).mp e; omega), if_neg (fun e => by have := (ft_w1 (B := B) (m := m) (p := p) (c := 18) (k := -6) (by omega)).mp e; omega)]
theorem ft_neg (h : ft B m p < 0) : ¬ tK B m p = 2 := fun e => by rw [ft_num e] at h; have := tV_in e; omega
theorem ft_opd (h1 : -6 ≤ ft B m p) (h2 : ft B m p ≤ 99999) : (tK B m p = 2 ∧ 0 ≤ ft B m p ∧ ft B m p = tV B m p) ∨ (tK B m p = 1 ∧ -6 ≤ ft B m p ∧ ft B m p ≤ -1) := by
  have hk := ft_k (B := B) (m := m) (p := p) (by omega)
  by_cases e2 : tK B m p = 2
  · left; have := tV_in e2; exact ⟨e2, by rw [ft_num e2]; omega, ft_num e2⟩
  · right
    unfold ft at h1 h2 ⊢
    rw [if_neg e2] at h1 h2 ⊢
    by_cases e1 : tK B m p = 1
    · rw [if_pos e1] at h1 h2 ⊢
      refine ⟨e1, h1, ?_⟩
      repeat' split
      all_goals (first | omega | (repeat' split at h2; all_goals omega))
    · rw [if_neg e1] at h1 h2
      have e3 : tK B m p = 3 := by omega
      rw [if_pos e3] at h1 h2
      exfalso
      repeat' split at h1
      all_goals (first | omega | (repeat' split at h2; all_goals omega))
end FTS
