/-! THE FORMULA as the reference reads it: its stack. -/
def sne (c : Int) : Int := if c = 0 then 20 else if c = -7 then 21 else rsg c
def stkr (st : List Int) (I : (Nat → Nat → Int32)) : Prop := ∀ j, j < st.length → I 69 j = iN (sne (st.getD (st.length - 1 - j) 0))
def rOut (out : List Int) (I : (Nat → Nat → Int32)) : Prop := I 62 17 = iN out.length ∧ ∀ z : Nat, z < out.length → I 65 z = iN (rcs (out.getD z 0)) ∧ I 66 z = iN (rca (out.getD z 0))
def rF (st out : List Int) (u : Int) (I : (Nat → Nat → Int32)) : Prop := rOut out I ∧ I 62 19 = iN st.length ∧ stkr st I ∧ I 62 20 = iN u ∧ I 62 22 = iN u ∧ I 62 23 = iN (dp st : Nat)
def scd (st : List Int) : Prop := ∀ c ∈ st, c = 0 ∨ (-17 ≤ c ∧ c ≤ -7)
def rFl (B : Nat → Int) (m q : Nat) (j : Int) (I : (Nat → Nat → Int32)) : Prop := I 62 2 = iN (if tK B m q = 4 then 1 else j) ∧ I 62 3 = iN (tP B m q : Nat)
def xp (e : Nat) (I I' : (Nat → Nat → Int32)) : Prop := ∀ a k, ¬ (a = 65 ∨ a = 66 ∨ a = 69) → ¬ (a = 62 ∧ ((e = 1 ∧ (k = 2 ∨ k = 3)) ∨ k = 4 ∨ k = 6 ∨ k = 7 ∨ k = 8 ∨ k = 17 ∨ k = 19 ∨ k = 20 ∨ k = 22 ∨ k = 23)) → I' a k = I a k
theorem xp_refl {e : Nat} {I : (Nat → Nat → Int32)} : xp e I I := fun _ _ _ _ => rfl
theorem xp_trans {e : Nat} {I I' I'' : (Nat → Nat → Int32)} (h : xp 0 I I') (h' : xp e I' I'') : xp e I I'' := fun a k h1 h2 => by rw [h' a k h1 h2, h a k h1 (by omega)]
theorem xp_r {e : Nat} {I I' : (Nat → Nat → Int32)} (h : xr I I') : xp e I I' := fun a k _ h2 => h a k (by omega)
theorem up_o {M : (Nat → Nat → Int32)} {a k b j : Nat} {x : Int32} (h : ¬ (b = a ∧ j = k)) : mm_up M a k x b j = M b j := by
  show (if b = a ∧ j = k then x else M b j) = M b j
  rw [if_neg h]
theorem sne_tg0 : ∀ k : Fin 11, fX12_tight (iN (sne ((k.val : Int) - 17))) = iN (tg ((k.val : Int) - 17)) ∧ ¬ iN (sne ((k.val : Int) - 17)) = iN 20 ∧ (iN (sne ((k.val : Int) - 17)) = iN 21 ↔ (k.val : Int) - 17 = -7) ∧ (¬ (k.val : Int) - 17 = -7 → sne ((k.val : Int) - 17) = rsg ((k.val : Int) - 17) ∧ rca ((k.val : Int) - 17) = rsg ((k.val : Int) - 17) ∧ rcs ((k.val : Int) - 17) = 3) := by decide +kernel
theorem sne_tg {c : Int} (h : -17 ≤ c ∧ c ≤ -7) : fX12_tight (iN (sne c)) = iN (tg c) ∧ ¬ iN (sne c) = iN 20 ∧ (iN (sne c) = iN 21 ↔ c = -7) ∧ (¬ c = -7 → sne c = rsg c ∧ rca c = rsg c ∧ rcs c = 3) := by
  have := sne_tg0 ⟨(c + 17).toNat, by omega⟩
  have e : (((c + 17).toNat : Nat) : Int) - 17 = c := by omega
  simp only [e] at this
  exact this
theorem sne_0 : sne 0 = 20 := rfl
section RST
variable {st out : List Int} {u : Int} {I : (Nat → Nat → Int32)}
theorem stkr_top {c : Int} {r : List Int} (h : stkr (c :: r) I) : I 69 r.length = iN (sne c) ∧ stkr r I := by
  constructor
  · have := h r.length (by simp)
    rw [show (c :: r).length - 1 - r.length = 0 by simp] at this
    exact this
  · intro j hj
    have := h j (by rw [List.length_cons]; omega)
    rw [List.length_cons, show r.length + 1 - 1 - j = (r.length - 1 - j) + 1 by omega, List.getD_cons_succ] at this
    exact this
theorem stkr_push {c : Int} (h : stkr st I) {x : Int32} (hx : x = iN (sne c)) : stkr (c :: st) (mm_up I 69 st.length x) := by
  intro j hj
  rw [List.length_cons] at hj ⊢
  by_cases e : j = st.length
  · rw [e, up_eq, hx, show st.length + 1 - 1 - st.length = 0 by omega]
    rfl
  · rw [up_k e, h j (by omega), show st.length + 1 - 1 - j = (st.length - 1 - j) + 1 by omega, List.getD_cons_succ]
theorem stkr_of (h : stkr st I) {I' : (Nat → Nat → Int32)} (e : ∀ j, I' 69 j = I 69 j) : stkr st I' := fun j hj => by rw [e]; exact h j hj
theorem rOut_of (h : rOut out I) {I' : (Nat → Nat → Int32)} (e : I' 62 17 = I 62 17) (e5 : ∀ j, I' 65 j = I 65 j) (e6 : ∀ j, I' 66 j = I 66 j) : rOut out I' := ⟨by rw [e]; exact h.1, fun z hz => by rw [e5, e6]; exact h.2 z hz⟩
theorem rf_add (h : rOut out I) (hl : out.length < 320) {c : Int} {x y : Int32} (hx : x = iN (rcs c)) (hy : y = iN (rca c)) : ∃ I', fX12_add x y I = some I' ∧ rOut (out ++ [c]) I' ∧ (∀ a k, ¬ (a = 65 ∨ a = 66) → ¬ (a = 62 ∧ k = 17) → I' a k = I a k) := by
  obtain ⟨h1, h2⟩ := h
  rw [fX12_add, h1]
  simp only [iN_lit]
  have e1 : ¬ (iN (out.length : Nat) < iN 0 ∨ 320 ≤ (iN (out.length : Nat)).toNatClampNeg) := by rw [iN_lt (by omega) (by omega) (by omega) (by omega), iN_tn (by omega) (by omega)]; omega
  rw [ite_n e1, ite_n e1, iN_tn (by omega) (by omega), iN_add, show (((out.length : Nat) : Int)).toNat = out.length by omega]
  refine ⟨_, rfl, ⟨?_, fun z hz => ?_⟩, fun a k g1 g2 => ?_⟩
  · rw [up_eq, List.length_append]; rfl
  · rw [List.length_append] at hz
    have hz : z < out.length + 1 := hz
    rw [up_a (by omega), up_a (by omega), up_c, up_a (by omega), up_c, up_a (by omega)]
    by_cases e : z = out.length
    · rw [if_pos e, if_pos e, gd_r e]; exact ⟨hx, hy⟩
    · rw [if_neg e, if_neg e, gd_l (by omega)]; exact h2 z (by omega)
  · rw [up_o g2, up_o (by omega), up_o (by omega)]
theorem cls_spec (t : Int) : ∀ (st out : List Int), ∃ l, st = l ++ (cls t st out).1 ∧ (cls t st out).2 = out ++ l ∧ (∀ c ∈ l, ¬ c = 0) ∧ low t (cls t st out).1 := by
  intro st
  induction st with
  | nil => intro out; exact ⟨[], rfl, by rw [List.append_nil]; rfl, fun c hc => absurd hc (by simp), trivial⟩
  | cons c r ih =>
    intro out
    rw [cls]
    by_cases h : c = 0 ∨ tg c < t
    · rw [if_pos h]; exact ⟨[], rfl, by rw [List.append_nil], fun c hc => absurd hc (by simp), h⟩
    · rw [if_neg h]
      obtain ⟨l, e1, e2, e3, e4⟩ := ih (out ++ [c])
      refine ⟨c :: l, by rw [List.cons_append, ← e1], by rw [e2, List.append_assoc]; rfl, fun d hd => ?_, e4⟩
      rcases List.mem_cons.mp hd with rfl | hd
      · omega
      · exact e3 d hd
theorem rf_close {t : Int} (ht : 0 ≤ t ∧ t ≤ 6) : ∀ (st out : List Int) (I : (Nat → Nat → Int32)) (n : Nat), st.length < n → st.length ≤ 100 → out.length + st.length < 320 → scd st → rF st out u I →
    ∃ I', fX12_close_L0 n (iN t) I = some I' ∧ rF (cls t st out).1 (cls t st out).2 u I' ∧ (∀ a k, ¬ (a = 65 ∨ a = 66) → ¬ (a = 62 ∧ (k = 17 ∨ k = 19 ∨ k = 23)) → I' a k = I a k) := by
  intro st
  induction st with
  | nil =>
    intro out I n hn h1 h2 h3 hF
    obtain ⟨n, rfl⟩ : ∃ k, n = k + 1 := ⟨n - 1, by simp at hn; omega⟩
    rw [fX12_close_L0, hF.2.1]
    refine ⟨I, ?_, hF, fun _ _ _ _ => rfl⟩
    exact if_neg (by decide)
  | cons c r ih =>
    intro out I n hn h1 h2 h3 hF
    obtain ⟨n, rfl⟩ : ∃ k, n = k + 1 := ⟨n - 1, by rw [List.length_cons] at hn; omega⟩
    rw [List.length_cons] at hn h1 h2
    obtain ⟨f1, f2, f3, f4, f5, f6⟩ := id hF
    rw [List.length_cons] at f2
    obtain ⟨t1, t2⟩ := stkr_top f3
    have f2 : I 62 19 = iN ((r.length : Int) + 1) := f2
    rw [fX12_close_L0, f2]
    simp only [iN_lit, iN_sub, iN_add]
    rw [show (r.length : Int) + 1 - 1 = (r.length : Nat) by omega]
    have e1 : ¬ (iN (r.length : Nat) < iN 0 ∨ 160 ≤ (iN (r.length : Nat)).toNatClampNeg) := by rw [iN_lt (by omega) (by omega) (by omega) (by omega), iN_tn (by omega) (by omega)]; omega
    rw [ite_p (by rw [iN_lt (by omega) (by omega) (by omega) (by omega)]; omega), ite_n e1, iN_tn (by omega) (by omega), show (((r.length : Nat) : Int)).toNat = r.length by omega, t1]
    rw [cls]
    by_cases hc0 : c = 0
    · rw [if_pos (Or.inl hc0), ite_p (by rw [hc0]; rfl)]
      exact ⟨I, rfl, hF, fun _ _ _ _ => rfl⟩
    · have hc : -17 ≤ c ∧ c ≤ -7 := by
        rcases h3 c (by simp) with h | h
        · exact absurd h hc0
        · exact h
      obtain ⟨s1, s2, s3, s4⟩ := sne_tg hc
      have htg := tg_in c
      have e1' : ¬ (iN (r.length : Nat) < iN 0 ∨ 160 ≤ r.length) := by rw [iN_lt (by omega) (by omega) (by omega) (by omega)]; omega
      rw [ite_n s2, s1]
      by_cases ht4 : tg c < t
      · rw [ite_n e1', ite_p (by rw [iN_lt (by omega) (by omega) (by omega) (by omega)]; exact ht4), if_pos (Or.inr ht4)]
        exact ⟨I, rfl, hF, fun _ _ _ _ => rfl⟩
      · rw [ite_n e1', ite_n (by rw [iN_lt (by omega) (by omega) (by omega) (by omega)]; exact ht4), ite_n e1', if_neg (show ¬ (c = 0 ∨ tg c < t) by omega)]
        have hO1 : rOut out (mm_up I 62 19 (iN (r.length : Nat))) := rOut_of f1 (up_k (by omega)) (fun j => by rw [up_a (by omega)]) (fun j => by rw [up_a (by omega)])
        by_cases h7 : c = -7
        · rw [ite_p (s3.mpr h7)]
          obtain ⟨I1, a1, a2, a3⟩ := rf_add hO1 (by omega) (c := c) (x := iN 2) (y := iN 0) (by rw [h7]; rfl) (by rw [h7]; rfl)
          rw [a1, Option.bind_some]
          have hd : dp (c :: r) = dp r + 1 := by rw [dp, if_pos (Or.inr h7)]
          have i23 : I1 62 23 = iN ((dp r : Nat) + 1) := by rw [a3 62 23 (by omega) (by omega), up_k (by omega), f6, hd]; rfl
          rw [i23, iN_sub, show ((dp r : Nat) : Int) + 1 - 1 = (dp r : Nat) by omega]
          have hF2 : rF r (out ++ [c]) u (mm_up I1 62 23 (iN (dp r : Nat))) := by
            refine ⟨rOut_of a2 (up_k (by omega)) (fun j => by rw [up_a (by omega)]) (fun j => by rw [up_a (by omega)]), ?_, ?_, ?_, ?_, up_eq⟩
            · rw [up_k (by omega), a3 62 19 (by omega) (by omega), up_eq]
            · exact stkr_of t2 (fun j => by rw [up_a (by omega), a3 69 j (by omega) (by omega), up_a (by omega)])
            · rw [up_k (by omega), a3 62 20 (by omega) (by omega), up_k (by omega), f4]
            · rw [up_k (by omega), a3 62 22 (by omega) (by omega), up_k (by omega), f5]
          obtain ⟨I2, b1, b2, b3⟩ := ih (out ++ [c]) _ n (by omega) (by omega) (by rw [List.length_append]; show out.length + 1 + r.length < 320; omega) (fun d hd => h3 d (by simp [hd])) hF2
          refine ⟨I2, b1, b2, fun a k g1 g2 => ?_⟩
          rw [b3 a k g1 g2, up_o (by omega), a3 a k g1 (by omega), up_o (by omega)]
        · rw [ite_n (fun z => h7 (s3.mp z)), ite_n e1']
          obtain ⟨s5, s6, s7⟩ := s4 h7
          obtain ⟨I1, a1, a2, a3⟩ := rf_add hO1 (by omega) (c := c) (x := iN 3) (y := iN (sne c)) (by rw [s7]) (by rw [s5, s6])
          rw [a1, Option.bind_some]
          have hd : dp (c :: r) = dp r := by rw [dp, if_neg (by omega)]; omega
          have hF2 : rF r (out ++ [c]) u I1 := by
            refine ⟨a2, ?_, ?_, ?_, ?_, ?_⟩
            · rw [a3 62 19 (by omega) (by omega), up_eq]
            · exact stkr_of t2 (fun j => by rw [a3 69 j (by omega) (by omega), up_a (by omega)])
            · rw [a3 62 20 (by omega) (by omega), up_k (by omega), f4]
            · rw [a3 62 22 (by omega) (by omega), up_k (by omega), f5]
            · rw [a3 62 23 (by omega) (by omega), up_k (by omega), f6, hd]
          obtain ⟨I2, b1, b2, b3⟩ := ih (out ++ [c]) _ n (by omega) (by omega) (by rw [List.length_append]; show out.length + 1 + r.length < 320; omega) (fun d hd => h3 d (by simp [hd])) hF2
          refine ⟨I2, b1, b2, fun a k g1 g2 => ?_⟩
          rw [b3 a k g1 g2, a3 a k g1 (by omega), up_o (by omega)]
theorem rf_hasR : ∀ (st : List Int) (n : Nat), st.length < n → st.length ≤ 100 → scd st → stkr st I →
    (fX12_hasRelation_L7 n (iN ((st.length : Int) - 1)) I).bind (fun o139 => (if o139 < 0 then some 0 else (if o139 < 0 ∨ 160 ≤ o139.toNatClampNeg then none else (if (I 69 o139.toNatClampNeg) = 20 then some 0 else (if o139 < 0 ∨ 160 ≤ o139.toNatClampNeg then none else (if (fX12_tight (I 69 o139.toNatClampNeg)) = 4 then some 1 else some 0)))))) = some (if hasR st = true then iN 1 else iN 0) := by
  intro st
  induction st with
  | nil =>
    intro n hn h1 h3 hS
    obtain ⟨n, rfl⟩ : ∃ k, n = k + 1 := ⟨n - 1, by simp at hn; omega⟩
    rw [fX12_hasRelation_L7]
    simp only [iN_lit]
    rfl
  | cons c r ih =>
    intro n hn h1 h3 hS
    rw [List.length_cons] at hn h1
    obtain ⟨n, rfl⟩ : ∃ k, n = k + 1 := ⟨n - 1, by omega⟩
    obtain ⟨t1, t2⟩ := stkr_top hS
    rw [fX12_hasRelation_L7, List.length_cons, show (((r.length + 1 : Nat) : Int)) - 1 = (r.length : Nat) by omega]
    simp only [iN_lit, iN_neg, iN_add]
    have e0 : ¬ iN (r.length : Nat) < iN 0 := by rw [iN_lt (by omega) (by omega) (by omega) (by omega)]; omega
    have e1 : ¬ (iN (r.length : Nat) < iN 0 ∨ 160 ≤ (iN (r.length : Nat)).toNatClampNeg) := by rw [iN_lt (by omega) (by omega) (by omega) (by omega), iN_tn (by omega) (by omega)]; omega
    have e2 : I 69 (iN (r.length : Nat)).toNatClampNeg = iN (sne c) := by rw [iN_tn (by omega) (by omega), show (((r.length : Nat) : Int)).toNat = r.length by omega, t1]
    rw [ite_n e0, ite_n e1, ite_n e1, e2, hasR]
    by_cases hc0 : c = 0
    · rw [ite_p (by rw [hc0]; rfl), Option.bind_some, ite_n e0, ite_n e1, e2, ite_p (by rw [hc0]; rfl), if_pos hc0]
      rfl
    · have hc : -17 ≤ c ∧ c ≤ -7 := by
        rcases h3 c (by simp) with h | h
        · exact absurd h hc0
        · exact h
      obtain ⟨s1, s2, s3, s4⟩ := sne_tg hc
      have htg := tg_in c
      rw [ite_n s2, s1, if_neg hc0]
      by_cases h4 : 4 < tg c
      · rw [ite_p (by rw [iN_lt (by omega) (by omega) (by omega) (by omega)]; exact h4), if_pos h4, show (r.length : Int) + -1 = (r.length : Int) - 1 by omega]
        exact ih n (by omega) (by omega) (fun d hd => h3 d (by simp [hd])) t2
      · rw [ite_n (by rw [iN_lt (by omega) (by omega) (by omega) (by omega)]; exact h4), Option.bind_some, ite_n e0, ite_n e1, e2, ite_n s2, ite_n e1, s1, if_neg h4]
        by_cases h5 : tg c = 4
        · rw [ite_p (by rw [h5]), decide_eq_true h5]; rfl
        · rw [ite_n (by rw [iN_eq (by omega) (by omega) (by omega) (by omega)]; exact h5), decide_eq_false h5]; rfl
theorem rf_hasBr (hl : st.length ≤ 100) (hc : scd st) (hS : stkr st I) (h19 : I 62 19 = iN st.length) : ∀ (d n j : Nat) (y : Int), j + d = st.length → d < n → (y = 0 ∨ y = 1) → (y = 1 ↔ ∃ i, i < j ∧ st.getD (st.length - 1 - i) 0 = 0) →
    ∃ z : Int, fX12_hasBracket_L4 n (iN y) (iN j) I = some (iN z) ∧ (z = 0 ∨ z = 1) ∧ (z = 1 ↔ ∃ i, i < st.length ∧ st.getD (st.length - 1 - i) 0 = 0) := by
  intro d
  induction d with
  | zero =>
    intro n j y hj hn hy hyi
    obtain ⟨n, rfl⟩ : ∃ k, n = k + 1 := ⟨n - 1, by omega⟩
    rw [fX12_hasBracket_L4, h19, ite_n (by rw [iN_lt (by omega) (by omega) (by omega) (by omega)]; omega)]
    have : j = st.length := by omega
    rw [this] at hyi
    exact ⟨y, rfl, hy, hyi⟩
  | succ d ih =>
    intro n j y hj hn hy hyi
    obtain ⟨n, rfl⟩ : ∃ k, n = k + 1 := ⟨n - 1, by omega⟩
    rw [fX12_hasBracket_L4, h19]
    simp only [iN_lit, iN_add]
    rw [ite_p (by rw [iN_lt (by omega) (by omega) (by omega) (by omega)]; omega), show (j : Int) + 1 = ((j + 1 : Nat) : Int) by omega]
    rcases hy with rfl | rfl
    · have e1 : ¬ (iN (j : Nat) < iN 0 ∨ 160 ≤ (iN (j : Nat)).toNatClampNeg) := by rw [iN_lt (by omega) (by omega) (by omega) (by omega), iN_tn (by omega) (by omega)]; omega
      rw [ite_p rfl, ite_n e1, iN_tn (by omega) (by omega), show ((j : Int)).toNat = j by omega, hS j (by omega)]
      have hmem : st.getD (st.length - 1 - j) 0 ∈ st := by
        have : st.length - 1 - j < st.length := by omega
        rw [List.getD_eq_getElem?_getD, List.getElem?_eq_getElem this]
        exact List.getElem_mem this
      by_cases hz : st.getD (st.length - 1 - j) 0 = 0
      · rw [ite_p (by rw [hz]; rfl)]
        exact ih n (j + 1) 1 (by omega) (by omega) (Or.inr rfl) ⟨fun _ => ⟨j, by omega, hz⟩, fun _ => rfl⟩
      · have hcc : -17 ≤ st.getD (st.length - 1 - j) 0 ∧ st.getD (st.length - 1 - j) 0 ≤ -7 := by
          rcases hc _ hmem with h | h
          · exact absurd h hz
          · exact h
        rw [ite_n (sne_tg hcc).2.1]
        refine ih n (j + 1) 0 (by omega) (by omega) (Or.inl rfl) ⟨fun h => by omega, fun ⟨i, i1, i2⟩ => ?_⟩
        by_cases e : i = j
        · rw [e] at i2; exact absurd i2 hz
        · exact hyi.mpr ⟨i, by omega, i2⟩
    · rw [ite_n n10]
      refine ih n (j + 1) 1 (by omega) (by omega) (Or.inr rfl) ⟨fun _ => ?_, fun _ => rfl⟩
      obtain ⟨i, i1, i2⟩ := hyi.mp rfl
      exact ⟨i, by omega, i2⟩
theorem rf_hasB (hl : st.length ≤ 100) (hc : scd st) (hS : stkr st I) (h19 : I 62 19 = iN st.length) {n : Nat} (hn : 200 ≤ n) : fX12_hasBracket n I = some (if 0 ∈ st then iN 1 else iN 0) := by
  obtain ⟨z, z1, z2, z3⟩ := rf_hasBr hl hc hS h19 st.length n 0 0 (by omega) (by omega) (Or.inl rfl) ⟨fun h => by omega, fun ⟨i, i1, _⟩ => by omega⟩
  have z1 : fX12_hasBracket_L4 n 0 0 I = some (iN z) := z1
  rw [fX12_hasBracket, z1, Option.bind_some]
  have hz : (∃ i, i < st.length ∧ st.getD (st.length - 1 - i) 0 = 0) ↔ 0 ∈ st := by
    constructor
    · rintro ⟨i, i1, i2⟩
      have : st.length - 1 - i < st.length := by omega
      rw [List.getD_eq_getElem?_getD, List.getElem?_eq_getElem this] at i2
      have i2 : st[st.length - 1 - i] = 0 := i2
      rw [← i2]
      exact List.getElem_mem this
    · intro h
      obtain ⟨i, i1, i2⟩ := List.getElem_of_mem h
      refine ⟨st.length - 1 - i, by omega, ?_⟩
      rw [show st.length - 1 - (st.length - 1 - i) = i by omega, List.getD_eq_getElem?_getD, List.getElem?_eq_getElem i1]
      exact i2
  rw [hz] at z3
  rcases z2 with rfl | rfl
  · rw [ite_p (show iN 0 = (0 : Int32) ∨ iN 0 = 1 from Or.inl rfl), if_neg (fun h => by have := z3.mpr h; omega)]
  · rw [ite_p (show iN 1 = (0 : Int32) ∨ iN 1 = 1 from Or.inr rfl), if_pos (z3.mp rfl)]
theorem rf_mayN (hl : st.length ≤ 100) (hc : scd st) (hS : stkr st I) (h19 : I 62 19 = iN st.length) : fX12_mayNot I = some (if mayN st = true then iN 1 else iN 0) := by
  rw [fX12_mayNot, h19]
  cases st with
  | nil => exact if_pos rfl
  | cons c r =>
    obtain ⟨t1, t2⟩ := stkr_top hS
    rw [List.length_cons] at hl ⊢
    simp only [iN_lit, iN_sub]
    rw [show (((r.length + 1 : Nat) : Int)) - 1 = (r.length : Nat) by omega]
    have e1 : ¬ (iN (r.length : Nat) < iN 0 ∨ 160 ≤ (iN (r.length : Nat)).toNatClampNeg) := by rw [iN_lt (by omega) (by omega) (by omega) (by omega), iN_tn (by omega) (by omega)]; omega
    have e2 : I 69 (iN (r.length : Nat)).toNatClampNeg = iN (sne c) := by rw [iN_tn (by omega) (by omega), show (((r.length : Nat) : Int)).toNat = r.length by omega, t1]
    rw [ite_n (by rw [iN_eq (by omega) (by omega) (by omega) (by omega)]; omega), ite_n e1, ite_n e1, e2]
    by_cases hc0 : c = 0
    · rw [ite_p (by rw [hc0]; rfl), if_pos (by unfold mayN; simp [hc0])]
    · have hcc : -17 ≤ c ∧ c ≤ -7 := by
        rcases hc c (by simp) with h | h
        · exact absurd h hc0
        · exact h
      obtain ⟨s1, s2, s3, s4⟩ := sne_tg hcc
      have htg := tg_in c
      rw [ite_n s2, s1]
      by_cases h4 : tg c < 4
      · rw [ite_p (by rw [iN_lt (by omega) (by omega) (by omega) (by omega)]; exact h4), if_pos (by unfold mayN; simp [h4])]
      · rw [ite_n (by rw [iN_lt (by omega) (by omega) (by omega) (by omega)]; exact h4), if_neg (by unfold mayN; simp [hc0]; omega)]
end RST
