/-! LINES: heat; which line it is. -/
def uh (W : (Nat → Int → Int)) (out : List Int) (u : Int) : (Nat → Int → Int) := fun b z => if b = 7 then out.getD z.toNat 0 else if b = 0 ∧ z = 5 then out.length else if b = 0 ∧ z = 6 then u else W b z
section LNH
variable {B : Nat → Int} {m r p : Nat} {I : (Nat → Nat → Int32)} {J : mJ} {I' : (Nat → Nat → Int32)} {J' : mJ} {W : (Nat → Int → Int)} {X : Int32} {NB NL : Nat → List Int}
theorem uh_0 {out : List Int} {u j : Int} (h5 : ¬ j = 5) (h6 : ¬ j = 6) : uh W out u 0 j = W 0 j := by unfold uh; rw [if_neg (by omega), if_neg (by omega), if_neg (by omega)]
theorem uh_5 {out : List Int} {u : Int} : uh W out u 0 5 = out.length := by unfold uh; rw [if_neg (by omega), if_pos ⟨rfl, rfl⟩]
theorem uh_6 {out : List Int} {u : Int} : uh W out u 0 6 = u := by unfold uh; rw [if_neg (by omega), if_neg (by omega), if_pos ⟨rfl, rfl⟩]
theorem uh_r {out : List Int} {u : Int} {k : Nat} (h0 : ¬ k = 0) (h7 : ¬ k = 7) : uh W out u k = W k := by funext z; unfold uh; rw [if_neg h7, if_neg (by omega), if_neg (by omega)]
theorem uh_7 {out : List Int} {u z : Int} : uh W out u 7 z = out.getD z.toNat 0 := by unfold uh; rw [if_pos rfl]
theorem wfB_heat (h : wfB W X NB NL) {X' : Int32} (hX : ¬ X' = iN 0) (h5 : bit X' 5 = true) {out : List Int} {u : Int} (hg : gd out u 1) (hl : 0 < out.length) : wfB (uh W out u) X' NB NL := by
  obtain ⟨h1, h2, h3, h4, h5', h6, h7, h8, h9, h10⟩ := h
  obtain ⟨g1, g2, ⟨g3, g4⟩, g5, g6⟩ := hg
  have ef7 : ∀ j : Int, lV out 7 j = (uh W out u) 7 j := fun j => by rw [uh_7]; rfl
  have e0 : uh W out u 0 0 = W 0 0 := uh_0 (by omega) (by omega)
  have e1 : uh W out u 0 1 = W 0 1 := uh_0 (by omega) (by omega)
  have e2 : uh W out u 0 2 = W 0 2 := uh_0 (by omega) (by omega)
  have e3 : uh W out u 0 3 = W 0 3 := uh_0 (by omega) (by omega)
  have e4 : uh W out u 0 4 = W 0 4 := uh_0 (by omega) (by omega)
  have e7 : uh W out u 0 7 = W 0 7 := uh_0 (by omega) (by omega)
  have e8 : uh W out u 0 8 = W 0 8 := uh_0 (by omega) (by omega)
  have e9 : uh W out u 0 9 = W 0 9 := uh_0 (by omega) (by omega)
  refine ⟨?_, ?_, ?_, ?_, ?_, ?_, Or.inr ⟨h5, ?_, ?_⟩, fun e => absurd e hX, ?_, ?_⟩
  · rw [e0, e1, e2, e3, e4, e7, e8, e9, uh_5, uh_6]; omega
  · rw [uh_r (k := 1) (by omega) (by omega)]; exact h2
  · rw [uh_r (k := 2) (by omega) (by omega)]; exact h3
  · rw [e0, e2, uh_r (k := 3) (by omega) (by omega), uh_r (k := 4) (by omega) (by omega), uh_r (k := 5) (by omega) (by omega)]; exact h4
  · rw [e3, uh_r (k := 6) (by omega) (by omega)]; exact h5'
  · rw [uh_5]; exact fun z hz => okz_c ef7 (g3 z (by omega))
  · rw [uh_5, ← fdep_c (V := lV out) (V' := uh W out u) (fun j _ => ef7 j), show ((out.length : Nat) : Int).toNat = out.length by omega]; exact g4
  · rw [uh_5]; omega
  · rw [e2]; exact h9
  · rw [e3]; exact h10
theorem LN_heat (hr0 : r = 3 ∨ r = 19) (hw : wfB W X NB NL) {X' : Int32} (hX : ¬ X' = iN 0) (h5 : bit X 5 = false) (h5' : bit X' 5 = true) (h6 : bit X' 6 = bit X 6) (h7 : bit X' 7 = bit X 7) (hT : TT B m p I J I' J') (hc : cBd W X' NB NL r I J) (hR : rBd W X NB NL I' J') (f1 : I 16 11 = iN 0) (f2 : I 16 12 = iN (-1)) (f3 : I' 62 3 = iN (-1)) {n : Nat} (hn : 3500 ≤ n) :
    LN B m r p I J I' J' ((fX4_readAny n (fX4_readOne n 9) 0 I J r).bind fun o1906 => (if o1906.1 = 0 then some (0, o1906.2.1, o1906.2.2) else (fX4_passEndOfLine n o1906.2.1 o1906.2.2).bind fun o1908 => (if o1908.1 = 0 then some (0, o1908.2.1, o1908.2.2) else some (1, o1908.2.1, o1908.2.2))))
      ((RUf n n n (mm_up (mm_up (mm_up (mm_up (mm_up I' 62 24 1) 62 17 0) 62 19 0) 62 23 0) 62 22 0) J').bind fun o438 => fX12_readLine_J235 n o438.1 o438.2) := by
  have hm := hT.1.2.1.1
  have hw56 : W 0 5 = 0 ∧ W 0 6 = 0 := by
    rcases hw.2.2.2.2.2.2.1 with ⟨q1, q2, q3⟩ | ⟨q1, -⟩
    · exact ⟨q2, q3⟩
    · rw [h5] at q1; exact absurd q1 (by decide)
  have hF : cF r [] 0 I := ⟨by rw [hc.2.1.2.2.2.2.2.2.2.2.1, hw56.1]; rfl, by rw [hc.2.1.2.2.2.2.2.2.2.2.2, hw56.2], fun z hz => absurd hz (by simp)⟩
  have fr : ∀ a k, ¬ (a = 62 ∧ (k = 24 ∨ k = 17 ∨ k = 19 ∨ k = 23 ∨ k = 22)) → (mm_up (mm_up (mm_up (mm_up (mm_up I' 62 24 1) 62 17 0) 62 19 0) 62 23 0) 62 22 0) a k = I' a k := fun a k g => by rw [up_o (by omega), up_o (by omega), up_o (by omega), up_o (by omega), up_o (by omega)]
  have hS : rS B m [] [] 0 p (mm_up (mm_up (mm_up (mm_up (mm_up I' 62 24 1) 62 17 0) 62 19 0) 62 23 0) 62 22 0) J' := by
    refine ⟨rT_of hT.2.1 (fun k hk => fr _ _ (by omega)) (fun j => fr _ _ (by omega)) rfl, ⟨⟨?_, fun z hz => absurd hz (by simp)⟩, ?_, fun j hj => absurd hj (by simp), ?_, ?_, ?_⟩, by rw [fr _ _ (by omega)]; exact hT.2.2⟩
    · rw [up_k (by omega), up_k (by omega), up_k (by omega), up_eq]; rfl
    · rw [up_k (by omega), up_k (by omega), up_eq]; rfl
    · rw [fr _ _ (by omega), hR.1.2.2.2.2.2.2.2.2, hw56.2]
    · rw [up_eq]; rfl
    · rw [up_k (by omega), up_eq]; rfl
  have h24 : (mm_up (mm_up (mm_up (mm_up (mm_up I' 62 24 1) 62 17 0) 62 19 0) 62 23 0) 62 22 0) 62 24 = iN 1 := by rw [up_k (by omega), up_k (by omega), up_k (by omega), up_k (by omega), up_eq]; rfl
  have hlR0 : lR I' (mm_up (mm_up (mm_up (mm_up (mm_up I' 62 24 1) 62 17 0) 62 19 0) 62 23 0) 62 22 0) := fun a k _ g => fr a k (by omega)
  generalize mm_up (mm_up (mm_up (mm_up (mm_up I' 62 24 1) 62 17 0) 62 19 0) 62 23 0) 62 22 0 = M at fr hS h24 hlR0 ⊢
  have hi : ri true [] [] 0 := ⟨by omega, by decide, fun c hc => absurd hc (by simp), by rw [if_pos rfl]; decide⟩
  rcases cl_form hr0 (N := n) (by omega) hT.1 hF with ⟨I1, J1, b1, q, b2, b3, b4, b5, j, b6, b7⟩ | ⟨I1, J1, b1, p', out, u, b2, b3, b4, b5, b6, b7, b8, j, b9, b10⟩
  · have b1 : fX4_readAny n (fX4_readOne n 9) 0 I J r = some (iN 0, I1, J1) := b1
    obtain ⟨I2, J2, c1, c2, c3, c4⟩ := (rf_am (B := B) (m := m) j).1 [] [] 0 p M J' n n n _ b7 hi hS (by omega) (by omega) (by omega)
    rw [b1, c1, Option.bind_some, Option.bind_some]
    dsimp only
    rw [ite_p (show iN 0 = (0 : Int32) from rfl)]
    exact LN_F (FF_mk b2 c4 (by omega)) (fun a k g1 g2 => b4 a k (by omega) (by omega) (by omega)) (lCJ_k b5) (lR_trans hlR0 (fun a k g1 g2 => c3 a k (by omega) (by omega))) (lRJ_r c2)
  · have b1 : fX4_readAny n (fX4_readOne n 9) 0 I J r = some (iN 1, I1, J1) := b1
    obtain ⟨I2, J2, c1, c2, c3, c4, c5, c6, c7⟩ := (rf_am (B := B) (m := m) j).1 [] [] 0 p M J' n n n _ b10 hi hS (by omega) (by omega) (by omega)
    rw [b1, c1, Option.bind_some, Option.bind_some]
    dsimp only
    rw [ite_n (show ¬ iN 1 = (0 : Int32) from n10)]
    have e0 : uh W out u 0 0 = W 0 0 := uh_0 (by omega) (by omega)
    have e1 : uh W out u 0 1 = W 0 1 := uh_0 (by omega) (by omega)
    have e2 : uh W out u 0 2 = W 0 2 := uh_0 (by omega) (by omega)
    have e3 : uh W out u 0 3 = W 0 3 := uh_0 (by omega) (by omega)
    have e4 : uh W out u 0 4 = W 0 4 := uh_0 (by omega) (by omega)
    have e7 : uh W out u 0 7 = W 0 7 := uh_0 (by omega) (by omega)
    have e8 : uh W out u 0 8 = W 0 8 := uh_0 (by omega) (by omega)
    have e9 : uh W out u 0 9 = W 0 9 := uh_0 (by omega) (by omega)
    have hcW : cBd (uh W out u) X' NB NL r I1 J1 := by
      obtain ⟨h0, ⟨a1, a2, a3, a4, a5, a6, a7, a8, a9, a10⟩, ⟨d1, d2, d3, d4, d5, d6, d7⟩, n1, n2⟩ := hc
      have hh : ∀ {a : Nat} {n : Int} {F : Int → Int}, ¬ a = 16 → ¬ a = r + 1 → ¬ a = r + 2 → hr I a n F → hr I1 a n F := fun ha hb hc h z h1 h2 => by rw [b7 _ _ (by omega) (by omega) (by omega)]; exact h z h1 h2
      refine ⟨by rw [b7 _ _ (by omega) (by omega) (by omega)]; exact h0, ?_, ?_, ?_, ?_⟩
      · rw [e0, e1, e2, e3, e4, e7, e8, e9, uh_5, uh_6]
        refine ⟨?_, ?_, ?_, ?_, ?_, ?_, ?_, ?_, b3.1, b3.2.1⟩
        all_goals (rw [b7 _ _ (by omega) (by omega) (by omega)]; assumption)
      · rw [e2, e3, uh_5, uh_r (k := 1) (by omega) (by omega), uh_r (k := 2) (by omega) (by omega), uh_r (k := 3) (by omega) (by omega), uh_r (k := 4) (by omega) (by omega), uh_r (k := 5) (by omega) (by omega), uh_r (k := 6) (by omega) (by omega)]
        refine ⟨hh (by omega) (by omega) (by omega) d1, hh (by omega) (by omega) (by omega) d2, hh (by omega) (by omega) (by omega) d3, hh (by omega) (by omega) (by omega) d4, hh (by omega) (by omega) (by omega) d5, hh (by omega) (by omega) (by omega) d6, fun z z1 z2 => ?_⟩
        rw [uh_7]
        exact b3.2.2 z.toNat (by omega)
      · rw [e2]; exact fun k hk => by rw [b8 _ _ (by omega)]; exact n1 k hk
      · rw [e3]; exact fun k hk => by rw [b8 _ _ (by omega)]; exact n2 k hk
    have hRW : rBd (uh W out u) X' NB NL I2 J2 := by
      obtain ⟨⟨a1, a2, a3, a4, a5, a6, a7, a8, a9⟩, ⟨g1, g2, g3⟩, ⟨d1, d2, d3, d4, d5, d6⟩, d, n1, n2⟩ := hR
      have hh : ∀ {a : Nat} {n : Int} {F : Int → Int}, ¬ a = 62 → ¬ (a = 65 ∨ a = 66 ∨ a = 69) → hr I' a n F → hr I2 a n F := fun ha hb h z h1 h2 => by rw [c3 _ _ hb (by omega), fr _ _ (by omega)]; exact h z h1 h2
      refine ⟨?_, ⟨?_, ?_, ?_⟩, ?_, fun _ => ?_, ?_, ?_⟩
      · rw [e0, e1, e2, e3, e4, e7, e8, e9, uh_6]
        refine ⟨?_, ?_, ?_, ?_, ?_, ?_, ?_, ?_, c7⟩
        all_goals (rw [c3 _ _ (by omega) (by omega), fr _ _ (by omega)]; assumption)
      · rw [c3 _ _ (by omega) (by omega), h24, h5']; rfl
      · rw [c3 _ _ (by omega) (by omega), fr _ _ (by omega), h6]; exact g2
      · rw [c3 _ _ (by omega) (by omega), fr _ _ (by omega), h7]; exact g3
      · rw [e2, e3, uh_r (k := 1) (by omega) (by omega), uh_r (k := 2) (by omega) (by omega), uh_r (k := 3) (by omega) (by omega), uh_r (k := 4) (by omega) (by omega), uh_r (k := 5) (by omega) (by omega), uh_r (k := 6) (by omega) (by omega)]
        exact ⟨hh (by omega) (by omega) d1, hh (by omega) (by omega) d2, hh (by omega) (by omega) d3, hh (by omega) (by omega) d4, hh (by omega) (by omega) d5, hh (by omega) (by omega) d6⟩
      · rw [uh_5]
        refine ⟨c6.1, fun z z1 z2 => ?_, fun z z1 z2 => ?_⟩
        · dsimp only; rw [uh_7]; exact (c6.2 z.toNat (by omega)).1
        · dsimp only; rw [uh_7]; exact (c6.2 z.toNat (by omega)).2
      · rw [e2]; exact fun k hk => by rw [c2 _ _ (by omega)]; exact n1 k hk
      · rw [e3]; exact fun k hk => by rw [c2 _ _ (by omega)]; exact n2 k hk
    have hE := LN_end hr0 (wfB_heat hw hX h5' b4 b5) hX ⟨b2, c4, c5⟩ hcW hRW (by rw [b7 _ _ (by omega) (by omega) (by omega)]; exact f1) (by rw [b7 _ _ (by omega) (by omega) (by omega)]; exact f2) (by rw [c3 _ _ (by omega) (by omega), fr _ _ (by omega)]; exact f3) (n := n) (by omega)
    have hE := LN_x hE (p0 := p) (by omega) (I0 := I) (J0 := J) (I0' := I') (J0' := J') (fun a k g1 g2 => b7 a k (by omega) (by omega) (by omega)) (lCJ_k b8) (lR_trans hlR0 (fun a k g1 g2 => c3 a k (by omega) (by omega))) (lRJ_r c2)
    rcases hE with ⟨I3, J3, I3', J3', x1, x2⟩ | ⟨W3, X3, NB3, NL3, p3, I3, J3, I3', J3', x1, x2⟩
    · refine Or.inl ⟨I3, J3, I3', J3', ?_, x2⟩
      rw [x1, Option.bind_some]; exact if_pos rfl
    · refine Or.inr ⟨W3, X3, NB3, NL3, p3, I3, J3, I3', J3', ?_, x2⟩
      rw [x1, Option.bind_some]; exact if_neg n10
/-! which line -/
theorem cBd_9 (hr0 : r = 3 ∨ r = 19) (h : cBd W X NB NL r I J) (X' : Int32) : cBd W X' NB NL r (mm_up I 16 9 X') J := by
  obtain ⟨h0, ⟨a1, a2, a3, a4, a5, a6, a7, a8, a9, a10⟩, ⟨b1, b2, b3, b4, b5, b6, b7⟩, n1, n2⟩ := h
  have hh : ∀ {a : Nat} {n : Int} {F : Int → Int}, ¬ a = 16 → hr I a n F → hr (mm_up I 16 9 X') a n F := fun ha h z h1 h2 => by rw [up_a ha]; exact h z h1 h2
  refine ⟨up_eq, ⟨?_, ?_, ?_, ?_, ?_, ?_, ?_, ?_, ?_, ?_⟩, ⟨hh (by omega) b1, hh (by omega) b2, hh (by omega) b3, hh (by omega) b4, hh (by omega) b5, hh (by omega) b6, hh (by omega) b7⟩, n1, n2⟩
  all_goals (rw [up_a (by omega)]; assumption)
/-- may this line begin -/
def bgn (W : (Nat → Int → Int)) (X : Int32) (k : Nat) : Prop := match k with
  | 0 => X = iN 0
  | 1 => W 0 8 < 16
  | 2 => W 0 9 < 6
  | 3 => W 0 2 < 4
  | 4 => W 0 3 < 7
  | 5 => bit X 5 = false
  | 6 => bit X 6 = false
  | 7 => bit X 7 = false
  | _ => False
theorem cl_bgn (hw : wfB W X NB NL) (hc : cBd W X NB NL r I J) {k : Nat} (hk : k < 8) : (fX4_mayBegin (iN k) I r = 0) = ¬ bgn W X k := by
  obtain ⟨h0, ⟨a1, a2, a3, a4, a5, a6, a7, a8, a9, a10⟩, -⟩ := hc
  have hb := hw.1
  have fin : ∀ (P : Prop) (d : Decidable P), ((@ite _ P d (1 : Int32) 0) = 0) = ¬ P := by
    intro P d
    by_cases h : P
    · rw [if_pos h]; exact propext ⟨fun z => absurd z (by decide), fun z => absurd h z⟩
    · rw [if_neg h]; exact propext ⟨fun _ => h, fun _ => rfl⟩
  have lt : ∀ (x : Int) (c : Int), -100 ≤ x ∧ x ≤ 1000 → 0 ≤ c ∧ c ≤ 1000 → (iN x < iN c) = (x < c) := fun x c h1 h2 => iN_lt (by omega) (by omega) (by omega) (by omega)
  have bt : ∀ c : Int, 0 ≤ c ∧ c < 32 → ((X >>> (iN c &&& 31)) &&& 1 = (0 : Int32)) = (bit X c = false) := by
    intro c h
    have e31 : iN c &&& (31 : Int32) = iN c := iN_31 h.1 h.2
    rw [e31]
    exact bit_t0 h.1 h.2
  rcases (show k = 0 ∨ k = 1 ∨ k = 2 ∨ k = 3 ∨ k = 4 ∨ k = 5 ∨ k = 6 ∨ k = 7 by omega) with rfl | rfl | rfl | rfl | rfl | rfl | rfl | rfl
  · rw [fX4_mayBegin, ite_p (by decide), h0, fin]; rfl
  · rw [fX4_mayBegin, ite_n (by decide), ite_p (by decide), a3, fin]; exact congrArg Not (lt _ 16 (by omega) (by omega))
  · rw [fX4_mayBegin, ite_n (by decide), ite_n (by decide), ite_p (by decide), a4, fin]; exact congrArg Not (lt _ 6 (by omega) (by omega))
  · rw [fX4_mayBegin, ite_n (by decide), ite_n (by decide), ite_n (by decide), ite_p (by decide), a5, fin]; exact congrArg Not (lt _ 4 (by omega) (by omega))
  · rw [fX4_mayBegin, ite_n (by decide), ite_n (by decide), ite_n (by decide), ite_n (by decide), ite_p (by decide), a6, fin]; exact congrArg Not (lt _ 7 (by omega) (by omega))
  · rw [fX4_mayBegin, ite_n (by decide), ite_n (by decide), ite_n (by decide), ite_n (by decide), ite_n (by decide), ite_p (by decide), h0, fin]; exact congrArg Not (bt 5 (by omega))
  · rw [fX4_mayBegin, ite_n (by decide), ite_n (by decide), ite_n (by decide), ite_n (by decide), ite_n (by decide), ite_n (by decide), ite_p (by decide), h0, fin]; exact congrArg Not (bt 6 (by omega))
  · rw [fX4_mayBegin, ite_n (by decide), ite_n (by decide), ite_n (by decide), ite_n (by decide), ite_n (by decide), ite_n (by decide), ite_n (by decide), ite_p (by decide), h0, fin]; exact congrArg Not (bt 7 (by omega))
theorem cl_bgn_no {k : Int} (hk : k = -1 ∨ (8 ≤ k ∧ k < 19)) : fX4_mayBegin (iN k) I r = 0 := by
  have h : ∀ c : Int, 0 ≤ c ∧ c < 8 → ¬ iN k = iN c := fun c hc => by rw [iN_eq (by omega) (by omega) (by omega) (by omega)]; omega
  rw [fX4_mayBegin, ite_n (show ¬ iN k = (0 : Int32) from h 0 (by omega)), ite_n (show ¬ iN k = (1 : Int32) from h 1 (by omega)), ite_n (show ¬ iN k = (2 : Int32) from h 2 (by omega)), ite_n (show ¬ iN k = (3 : Int32) from h 3 (by omega)), ite_n (show ¬ iN k = (4 : Int32) from h 4 (by omega)), ite_n (show ¬ iN k = (5 : Int32) from h 5 (by omega)), ite_n (show ¬ iN k = (6 : Int32) from h 6 (by omega)), ite_n (show ¬ iN k = (7 : Int32) from h 7 (by omega))]
end LNH
