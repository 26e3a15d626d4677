/-! THE WHOLE TEXT. -/
def W0 : (Nat → Int → Int) := fun b z => if b = 0 then (if z = 0 then 8 else if z = 1 then 6 else 0) else if b = 1 then -1 else 0
section RDA
variable {B : Nat → Int} {m r p : Nat} {I : (Nat → Nat → Int32)} {J : mJ} {I' : (Nat → Nat → Int32)} {J' : mJ} {W : (Nat → Int → Int)} {X : Int32} {NB NL : Nat → List Int}
/-- all lines: one fault, or both are through -/
def RD (B : Nat → Int) (m r : Nat) (I : (Nat → Nat → Int32)) (J : mJ) (I' : (Nat → Nat → Int32)) (J' : mJ) (c : Option (Int32 × (Nat → Nat → Int32) × mJ)) (f : Option ((Nat → Nat → Int32) × mJ)) : Prop :=
  (∃ I1 J1 I1' J1', c = some (iN 0, I1, J1) ∧ f = some (I1', J1') ∧ FF I1 I1' ∧ lC r I I1 ∧ lCJ r J J1 ∧ lR I' I1' ∧ lRJ J' J1') ∨
  (∃ W X NB NL p1 I1 J1 I1' J1', c = some (iN 1, I1, J1) ∧ f = some (I1', J1') ∧ sm2 B m r W X NB NL p1 I1 J1 I1' J1' ∧ lC r I I1 ∧ lCJ r J J1 ∧ lR I' I1' ∧ lRJ J' J1')
theorem rd_loop (hr0 : r = 3 ∨ r = 19) : ∀ (d n p : Nat) (y : Int) (W : (Nat → Int → Int)) (X : Int32) (NB NL : Nat → List Int) (I : (Nat → Nat → Int32)) (J : mJ) (I' : (Nat → Nat → Int32)) (J' : mJ), m - p ≤ d → 3502 + (m - p) ≤ n → 0 ≤ y → y ≤ p → sm2 B m r W X NB NL p I J I' J' →
    RD B m r I J I' J' ((fX4_read_2_L58 n (iN y) r I J r).bind fun o2272 => (match o2272 with | (.inl va, v0, v1) => some (va, v0, v1) | (.inr _, v0, v1) => some (1, v0, v1))) (fX12_readAll_L127 n I' J') := by
  intro d
  induction d with
  | zero =>
    intro n p y W X NB NL I J I' J' hd hn hy hyp h
    obtain ⟨n, rfl⟩ : ∃ k, n = k + 1 := ⟨n - 1, by omega⟩
    have hT := h.2.1
    have hpm := hT.1.1
    have hm := hT.1.2.1.1
    have k0 : tK B m p = 0 := by
      by_cases k0 : tK B m p = 0
      · exact k0
      · have := (tN_in (B := B) hpm).2.2 k0; have := (tN_in (B := B) hpm).1; omega
    have h5 : I 16 5 = (0 : Int32) := by rw [hT.1.2.2.2.2.1, k0]; rfl
    obtain ⟨-, -, -, s4, -, s6, s7⟩ := tS_sp hT.2.1.2.1 hpm
    have h6 : I' 62 6 = (0 : Int32) := by rw [hT.2.1.2.2.2.1, s4.mpr k0]; rfl
    have hcl : fX4_read_2_L58 (n + 1) (iN y) r I J r = some (.inr (), I, J) := by
      rw [fX4_read_2_L58]
      by_cases hy2 : iN y < (1600 : Int32)
      · rw [ite_p hy2, ite_p h5]
      · rw [ite_n hy2]
    rw [hcl, fX12_readAll_L127, ite_p (show I' 62 2 = (0 : Int32) from hT.2.2), ite_p h6]
    exact Or.inr ⟨W, X, NB, NL, p, I, J, I', J', rfl, rfl, h, lC_refl, lCJ_refl, lR_refl, lRJ_refl⟩
  | succ d ih =>
    intro n p y W X NB NL I J I' J' hd hn hy hyp h
    obtain ⟨n, rfl⟩ : ∃ k, n = k + 1 := ⟨n - 1, by omega⟩
    have hT := h.2.1
    have hpm := hT.1.1
    have hm := hT.1.2.1.1
    have hK : tK B m p = 0 ∨ tK B m p = 1 ∨ tK B m p = 2 ∨ tK B m p = 3 ∨ tK B m p = 4 := tKq_in
    obtain ⟨-, -, -, s4, -, s6, s7⟩ := tS_sp hT.2.1.2.1 hpm
    by_cases k0 : tK B m p = 0
    · have h5 : I 16 5 = (0 : Int32) := by rw [hT.1.2.2.2.2.1, k0]; rfl
      have h6 : I' 62 6 = (0 : Int32) := by rw [hT.2.1.2.2.2.1, s4.mpr k0]; rfl
      have hcl : fX4_read_2_L58 (n + 1) (iN y) r I J r = some (.inr (), I, J) := by
        rw [fX4_read_2_L58]
        by_cases hy2 : iN y < (1600 : Int32)
        · rw [ite_p hy2, ite_p h5]
        · rw [ite_n hy2]
      rw [hcl, fX12_readAll_L127, ite_p (show I' 62 2 = (0 : Int32) from hT.2.2), ite_p h6]
      exact Or.inr ⟨W, X, NB, NL, p, I, J, I', J', rfl, rfl, h, lC_refl, lCJ_refl, lR_refl, lRJ_refl⟩
    · have hlt := (tN_in (B := B) hpm).2.2 k0
      have hpl := (tP_in (B := B) hpm)
      have h5 : ¬ I 16 5 = (0 : Int32) := by rw [hT.1.2.2.2.2.1]; show ¬ iN _ = iN 0; rw [iN_eq (by omega) (by omega) (by omega) (by omega)]; exact k0
      have h6 : ¬ I' 62 6 = (0 : Int32) := by rw [hT.2.1.2.2.2.1]; show ¬ iN _ = iN 0; rw [iN_eq (by omega) (by omega) (by omega) (by omega)]; exact fun z => k0 (s4.mp z)
      have hy2 : iN y < (1600 : Int32) := by show iN y < iN 1600; rw [iN_lt (by omega) (by omega) (by omega) (by omega)]; omega
      rw [fX4_read_2_L58, ite_p hy2, ite_n h5, fX12_readAll_L127, ite_p (show I' 62 2 = (0 : Int32) from hT.2.2), ite_n h6]
      rcases LN_line hr0 h (n := n) (by omega) with ⟨I1, J1, I1', J1', a1, a2, a3, a4, a5, a6, a7⟩ | ⟨W1, X1, NB1, NL1, p1, I1, J1, I1', J1', a1, a2, a3, a8, a4, a5, a6, a7⟩
      · obtain ⟨n, rfl⟩ : ∃ k, n = k + 1 := ⟨n - 1, by omega⟩
        rw [a1, a2, Option.bind_some, Option.bind_some]
        dsimp only
        rw [ite_p (show iN 0 = (0 : Int32) from rfl), fX12_readAll_L127, ite_n (hasF_no (FF_has a3)).1]
        exact Or.inl ⟨I1, J1, I1', J1', rfl, rfl, a3, a4, a5, a6, a7⟩
      · rw [a1, a2, Option.bind_some, Option.bind_some]
        dsimp only
        have e1 : (iN y + 1 : Int32) = iN (y + 1) := iN_add y 1
        rw [ite_n (show ¬ iN 1 = (0 : Int32) from n10), e1]
        have hpm1 := a3.2.1.1.1
        rcases ih n p1 (y + 1) W1 X1 NB1 NL1 I1 J1 I1' J1' (by omega) (by omega) (by omega) (by omega) a3 with ⟨I2, J2, I2', J2', b1, b2, b3, b4, b5, b6, b7⟩ | ⟨W2, X2, NB2, NL2, p2, I2, J2, I2', J2', b1, b2, b3, b4, b5, b6, b7⟩
        · exact Or.inl ⟨I2, J2, I2', J2', b1, b2, b3, lC_trans a4 b4, lCJ_trans a5 b5, lR_trans a6 b6, lRJ_trans a7 b7⟩
        · exact Or.inr ⟨W2, X2, NB2, NL2, p2, I2, J2, I2', J2', b1, b2, b3, lC_trans a4 b4, lCJ_trans a5 b5, lR_trans a6 b6, lRJ_trans a7 b7⟩
theorem W0_0 {z : Int} (h0 : ¬ z = 0) (h1 : ¬ z = 1) : W0 0 z = 0 := by unfold W0; rw [if_pos rfl, if_neg h0, if_neg h1]
theorem W0_r {k : Nat} {z : Int} (h0 : ¬ k = 0) (h1 : ¬ k = 1) : W0 k z = 0 := by unfold W0; rw [if_neg h0, if_neg h1]
theorem wfB_0 {NB NL : Nat → List Int} : wfB W0 (iN 0) NB NL := by
  have e0 : W0 0 0 = 8 := rfl
  have e1 : W0 0 1 = 6 := rfl
  have e : ∀ z : Int, ¬ z = 0 → ¬ z = 1 → W0 0 z = 0 := fun z h0 h1 => W0_0 h0 h1
  refine ⟨?_, fun z _ _ => ⟨by show -1 ≤ (-1 : Int); omega, by show (-1 : Int) ≤ 7; omega⟩, fun z _ _ => Or.inl (W0_r (by omega) (by omega)), fun z h1 h2 => ?_, fun z h1 h2 => ?_, fun z hz => ?_, Or.inl ⟨bit_0, e 5 (by omega) (by omega), e 6 (by omega) (by omega)⟩, fun _ => e 2 (by omega) (by omega), fun k hk => ?_, fun k hk => ?_⟩
  · rw [e0, e1, e 2 (by omega) (by omega), e 3 (by omega) (by omega), e 4 (by omega) (by omega), e 5 (by omega) (by omega), e 6 (by omega) (by omega), e 7 (by omega) (by omega), e 8 (by omega) (by omega), e 9 (by omega) (by omega)]; omega
  · rw [e 2 (by omega) (by omega)] at h2; omega
  · rw [e 3 (by omega) (by omega)] at h2; omega
  · rw [e 5 (by omega) (by omega)] at hz; omega
  · rw [e 2 (by omega) (by omega)] at hk; omega
  · rw [e 3 (by omega) (by omega)] at hk; omega
theorem fill_o {I : (Nat → Nat → Int32)} {a n b : Nat} {x : Int32} {k : Nat} (h : ¬ (b = a ∧ k < n)) : mf_fill I a n x b k = I b k := by
  show (if b = a then (if k < n then x else I a k) else I b k) = I b k
  by_cases e : b = a
  · rw [if_pos e, if_neg (fun z => h ⟨e, z⟩), e]
  · rw [if_neg e]
/-- the class's river, empty -/
theorem cl_clr (hr0 : r = 3 ∨ r = 19) : (∀ a k, ¬ (r ≤ a ∧ a ≤ r + 12) → fX5_clear r I a k = I a k) ∧ (fX5_clear r I r 0 = iN 8 ∧ fX5_clear r I r 1 = iN 6 ∧ fX5_clear r I r 2 = iN 0 ∧ fX5_clear r I r 3 = iN 0 ∧ fX5_clear r I r 4 = iN 0 ∧ fX5_clear r I r 5 = iN 0 ∧ fX5_clear r I r 6 = iN 0 ∧ fX5_clear r I r 7 = iN 0 ∧ fX5_clear r I (r + 1) 3 = iN 0 ∧ fX5_clear r I (r + 1) 4 = iN 0) ∧ hr (fX5_clear r I) (r + 5) 56 (fun _ => -1) ∧ hr (fX5_clear r I) (r + 6) 56 (fun _ => 0) := by
  have eo : ∀ a k, ¬ (a = r + 5) → ¬ (a = r + 6) → fX5_clear r I a k = (mm_up (mm_up (mm_up (mm_up (mm_up (mm_up (mm_up (mm_up (mm_up (mm_up I r 0 8) r 1 6) r 2 0) r 3 0) r 4 0) r 5 0) r 6 0) r 7 0) (r + 1) 3 0) (r + 1) 4 0) a k := by
    intro a k h1 h2
    unfold fX5_clear fX0_clear
    rw [fill_o (by omega), fill_o (by omega)]
  refine ⟨fun a k h => ?_, ⟨?_, ?_, ?_, ?_, ?_, ?_, ?_, ?_, ?_, ?_⟩, fun z h1 h2 => ?_, fun z h1 h2 => ?_⟩
  · rw [eo _ _ (by omega) (by omega), up_o (by omega), up_o (by omega), up_o (by omega), up_o (by omega), up_o (by omega), up_o (by omega), up_o (by omega), up_o (by omega), up_o (by omega), up_o (by omega)]
  · rw [eo _ _ (by omega) (by omega), up_o (by omega), up_o (by omega), up_o (by omega), up_o (by omega), up_o (by omega), up_o (by omega), up_o (by omega), up_o (by omega), up_o (by omega), up_eq]; rfl
  · rw [eo _ _ (by omega) (by omega), up_o (by omega), up_o (by omega), up_o (by omega), up_o (by omega), up_o (by omega), up_o (by omega), up_o (by omega), up_o (by omega), up_eq]; rfl
  · rw [eo _ _ (by omega) (by omega), up_o (by omega), up_o (by omega), up_o (by omega), up_o (by omega), up_o (by omega), up_o (by omega), up_o (by omega), up_eq]; rfl
  · rw [eo _ _ (by omega) (by omega), up_o (by omega), up_o (by omega), up_o (by omega), up_o (by omega), up_o (by omega), up_o (by omega), up_eq]; rfl
  · rw [eo _ _ (by omega) (by omega), up_o (by omega), up_o (by omega), up_o (by omega), up_o (by omega), up_o (by omega), up_eq]; rfl
  · rw [eo _ _ (by omega) (by omega), up_o (by omega), up_o (by omega), up_o (by omega), up_o (by omega), up_eq]; rfl
  · rw [eo _ _ (by omega) (by omega), up_o (by omega), up_o (by omega), up_o (by omega), up_eq]; rfl
  · rw [eo _ _ (by omega) (by omega), up_o (by omega), up_o (by omega), up_eq]; rfl
  · rw [eo _ _ (by omega) (by omega), up_o (by omega), up_eq]; rfl
  · rw [eo _ _ (by omega) (by omega), up_eq]; rfl
  · unfold fX5_clear
    rw [fill_o (by omega), fill_eq (by omega)]; rfl
  · unfold fX5_clear
    rw [fill_eq (by omega)]; rfl
/-- the class before its first token -/
theorem cl_rd0 (hr0 : r = 3 ∨ r = 19) (hp : cTp B m I) (hw : cw J) {n : Nat} (hn : 1700 ≤ n) : ∃ I1 J1, fX4_advance n (mm_up (mm_up (mm_up (mm_up (fX5_clear r (mm_up I 16 2 (fJ9_max 0 (fJ9_min (I 1 1) 1600)))) 16 9 0) 16 11 0) 16 12 (-1)) 16 4 0) J = some (I1, J1) ∧ cT B m 0 I1 J1 ∧ cBd W0 (iN 0) (fun _ => []) (fun _ => []) r I1 J1 ∧ I1 16 11 = iN 0 ∧ I1 16 12 = iN (-1) ∧ lC r I I1 ∧ lCJ r J J1 := by
  obtain ⟨h1, h2, h3⟩ := hp
  have e2 : fJ9_max 0 (fJ9_min (I 1 1) 1600) = iN m := by
    rw [h2]
    have q1 : fJ9_min (iN m) (1600 : Int32) = iN (if (1600 : Int) < m then 1600 else m) := cl_min (m : Int) 1600 (by omega) (by omega)
    rw [q1, if_neg (by omega)]
    have q2 : fJ9_max (0 : Int32) (iN m) = iN (if (0 : Int) < m then m else 0) := cl_max 0 (m : Int) (by omega) (by omega)
    rw [q2]
    by_cases e : (0 : Int) < m
    · rw [if_pos e]
    · rw [if_neg e]; congr 1; omega
  rw [e2]
  obtain ⟨k0, ⟨c1, c2, c3, c4, c5, c6, c7, c8, c9, c10⟩, d1, d2⟩ := cl_clr (I := mm_up I 16 2 (iN m)) hr0
  generalize fX5_clear r (mm_up I 16 2 (iN m)) = K at k0 c1 c2 c3 c4 c5 c6 c7 c8 c9 c10 d1 d2 ⊢
  have fr : ∀ a k, ¬ (a = 16 ∧ (k = 9 ∨ k = 11 ∨ k = 12 ∨ k = 4)) → (mm_up (mm_up (mm_up (mm_up K 16 9 0) 16 11 0) 16 12 (-1)) 16 4 0) a k = K a k := fun a k g => by rw [up_o (by omega), up_o (by omega), up_o (by omega), up_o (by omega)]
  have hb : cb B m (mm_up (mm_up (mm_up (mm_up K 16 9 0) 16 11 0) 16 12 (-1)) 16 4 0) := by
    refine ⟨h1, by rw [fr _ _ (by omega), k0 _ _ (by omega), up_eq], fun k hk => ?_⟩
    rw [fr _ _ (by omega), k0 _ _ (by omega), up_a (by omega)]
    exact h3 k hk
  obtain ⟨I1, J1, a1, a2, a3, a4⟩ := cl_adv hb hw (Nat.zero_le m) (p := 0) up_eq hn
  refine ⟨I1, J1, a1, a2, ?_, ?_, ?_, ?_, lCJ_k a4⟩
  · have hh : ∀ {a : Nat} {n : Int} {F : Int → Int}, ¬ a = 16 → hr K a n F → hr I1 a n F := fun ha h z h1 h2 => by rw [a3 _ _ (by omega), fr _ _ (by omega)]; exact h z h1 h2
    have eR : ∀ a k, ¬ a = 16 → I1 a k = K a k := fun a k ha => by rw [a3 _ _ (by omega), fr _ _ (by omega)]
    have z2 : W0 0 2 = 0 := rfl
    have z3 : W0 0 3 = 0 := rfl
    have z5 : W0 0 5 = 0 := rfl
    refine ⟨?_, ⟨?_, ?_, ?_, ?_, ?_, ?_, ?_, ?_, ?_, ?_⟩, ⟨hh (by omega) d1, fun z h1 h2 => ?_, fun z h1 h2 => ?_, fun z h1 h2 => ?_, fun z h1 h2 => ?_, fun z h1 h2 => ?_, fun z h1 h2 => ?_⟩, fun k hk => ?_, fun k hk => ?_⟩
    · rw [a3 _ _ (by omega), up_o (by omega), up_o (by omega), up_o (by omega), up_eq]; rfl
    · rw [eR _ _ (by omega)]; exact c1
    · rw [eR _ _ (by omega)]; exact c2
    · rw [eR _ _ (by omega)]; exact c3
    · rw [eR _ _ (by omega)]; exact c4
    · rw [eR _ _ (by omega)]; exact c5
    · rw [eR _ _ (by omega)]; exact c6
    · rw [eR _ _ (by omega)]; exact c7
    · rw [eR _ _ (by omega)]; exact c8
    · rw [eR _ _ (by omega)]; exact c9
    · rw [eR _ _ (by omega)]; exact c10
    · rw [eR _ _ (by omega), W0_r (by omega) (by omega)]; exact d2 z h1 h2
    · omega
    · omega
    · omega
    · omega
    · omega
    · omega
    · omega
  · rw [a3 _ _ (by omega), up_o (by omega), up_o (by omega), up_eq]; rfl
  · rw [a3 _ _ (by omega), up_o (by omega), up_eq]; rfl
  · intro a k g1 g2
    rw [a3 _ _ (by omega), fr _ _ (by omega), k0 _ _ (by omega), up_a (by omega)]
end RDA
