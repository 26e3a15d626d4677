/-! LINES: water, flood, draw. -/
def uw (W : (Nat → Int → Int)) (a : Nat) (k x : Int) : (Nat → Int → Int) := fun b z => if b = a ∧ z = k then x else W b z
theorem uw_eq {W : (Nat → Int → Int)} {a : Nat} {k x : Int} : uw W a k x a k = x := if_pos ⟨rfl, rfl⟩
theorem uw_ne {W : (Nat → Int → Int)} {a b : Nat} {k z x : Int} (h : ¬ (b = a ∧ z = k)) : uw W a k x b z = W b z := if_neg h
theorem okz_c {V V' : (Nat → Int → Int)} {z : Nat} (h : ∀ i : Int, V 7 i = V' 7 i) (k : okz V z) : okz V' z := by
  unfold okz at k ⊢
  rw [← h z, ← fdep_c (V := V) (V' := V') (fun i _ => h i)]
  exact k
section LNW
variable {B : Nat → Int} {m r p : Nat} {I : (Nat → Nat → Int32)} {J : mJ} {I' : (Nat → Nat → Int32)} {J' : mJ} {W : (Nat → Int → Int)} {X : Int32} {NB NL : Nat → List Int}
theorem cBd_sc (hr0 : r = 3 ∨ r = 19) (h : cBd W X NB NL r I J) {j : Nat} {i : Int} (hij : (j = 0 ∧ i = 0) ∨ (j = 1 ∧ i = 1) ∨ (j = 6 ∧ i = 4) ∨ (j = 7 ∧ i = 7)) (v : Int) : cBd (uw W 0 i v) X NB NL r (mm_up I r j (iN v)) J := by
  obtain ⟨h0, ⟨a1, a2, a3, a4, a5, a6, a7, a8, a9, a10⟩, ⟨b1, b2, b3, b4, b5, b6, b7⟩, n1, n2⟩ := h
  have hh : ∀ {a : Nat} {n : Int} {F : Int → Int}, ¬ a = r → hr I a n F → hr (mm_up I r j (iN v)) a n F := fun ha h z h1 h2 => by rw [up_a ha]; exact h z h1 h2
  refine ⟨by rw [up_a (by omega)]; exact h0, ?_, ?_, ?_, ?_⟩
  · rcases hij with ⟨rfl, rfl⟩ | ⟨rfl, rfl⟩ | ⟨rfl, rfl⟩ | ⟨rfl, rfl⟩
    · refine ⟨by rw [up_eq, uw_eq], ?_, ?_, ?_, ?_, ?_, ?_, ?_, ?_, ?_⟩
      all_goals (first | (rw [up_k (by omega), uw_ne (by omega)]; assumption) | (rw [up_a (by omega), uw_ne (by omega)]; assumption))
    · refine ⟨?_, by rw [up_eq, uw_eq], ?_, ?_, ?_, ?_, ?_, ?_, ?_, ?_⟩
      all_goals (first | (rw [up_k (by omega), uw_ne (by omega)]; assumption) | (rw [up_a (by omega), uw_ne (by omega)]; assumption))
    · refine ⟨?_, ?_, ?_, ?_, ?_, ?_, by rw [up_eq, uw_eq], ?_, ?_, ?_⟩
      all_goals (first | (rw [up_k (by omega), uw_ne (by omega)]; assumption) | (rw [up_a (by omega), uw_ne (by omega)]; assumption))
    · refine ⟨?_, ?_, ?_, ?_, ?_, ?_, ?_, by rw [up_eq, uw_eq], ?_, ?_⟩
      all_goals (first | (rw [up_k (by omega), uw_ne (by omega)]; assumption) | (rw [up_a (by omega), uw_ne (by omega)]; assumption))
  · have e2 : uw W 0 i v 0 2 = W 0 2 := uw_ne (by omega)
    have e3 : uw W 0 i v 0 3 = W 0 3 := uw_ne (by omega)
    have e5 : uw W 0 i v 0 5 = W 0 5 := uw_ne (by omega)
    have ef : ∀ a, ¬ a = 0 → uw W 0 i v a = W a := fun a ha => by funext z; exact uw_ne (by omega)
    rw [e2, e3, e5, ef 1 (by omega), ef 2 (by omega), ef 3 (by omega), ef 4 (by omega), ef 5 (by omega), ef 6 (by omega), ef 7 (by omega)]
    exact ⟨hh (by omega) b1, hh (by omega) b2, hh (by omega) b3, hh (by omega) b4, hh (by omega) b5, hh (by omega) b6, hh (by omega) b7⟩
  · rw [uw_ne (by omega)]; exact n1
  · rw [uw_ne (by omega)]; exact n2
theorem rBd_sc (h : rBd W X NB NL I J) {j : Nat} {i : Int} (hij : (j = 38 ∧ i = 0) ∨ (j = 39 ∧ i = 1) ∨ (j = 44 ∧ i = 4) ∨ (j = 45 ∧ i = 7)) (v : Int) : rBd (uw W 0 i v) X NB NL (mm_up I 62 j (iN v)) J := by
  obtain ⟨⟨a1, a2, a3, a4, a5, a6, a7, a8, a9⟩, ⟨c1, c2, c3⟩, ⟨b1, b2, b3, b4, b5, b6⟩, d, n1, n2⟩ := h
  have hh : ∀ {a : Nat} {n : Int} {F : Int → Int}, ¬ a = 62 → hr I a n F → hr (mm_up I 62 j (iN v)) a n F := fun ha h z h1 h2 => by rw [up_a ha]; exact h z h1 h2
  have e2 : uw W 0 i v 0 2 = W 0 2 := uw_ne (by omega)
  have e3 : uw W 0 i v 0 3 = W 0 3 := uw_ne (by omega)
  have e5 : uw W 0 i v 0 5 = W 0 5 := uw_ne (by omega)
  have ef : ∀ a, ¬ a = 0 → uw W 0 i v a = W a := fun a ha => by funext z; exact uw_ne (by omega)
  refine ⟨?_, ⟨?_, ?_, ?_⟩, ?_, ?_, ?_, ?_⟩
  · rcases hij with ⟨rfl, rfl⟩ | ⟨rfl, rfl⟩ | ⟨rfl, rfl⟩ | ⟨rfl, rfl⟩
    · refine ⟨by rw [up_eq, uw_eq], ?_, ?_, ?_, ?_, ?_, ?_, ?_, ?_⟩
      all_goals (rw [up_k (by omega), uw_ne (by omega)]; assumption)
    · refine ⟨?_, by rw [up_eq, uw_eq], ?_, ?_, ?_, ?_, ?_, ?_, ?_⟩
      all_goals (rw [up_k (by omega), uw_ne (by omega)]; assumption)
    · refine ⟨?_, ?_, ?_, ?_, ?_, ?_, by rw [up_eq, uw_eq], ?_, ?_⟩
      all_goals (rw [up_k (by omega), uw_ne (by omega)]; assumption)
    · refine ⟨?_, ?_, ?_, ?_, ?_, ?_, ?_, by rw [up_eq, uw_eq], ?_⟩
      all_goals (rw [up_k (by omega), uw_ne (by omega)]; assumption)
  · rw [up_k (by omega)]; exact c1
  · rw [up_k (by omega)]; exact c2
  · rw [up_k (by omega)]; exact c3
  · rw [e2, e3, ef 1 (by omega), ef 2 (by omega), ef 3 (by omega), ef 4 (by omega), ef 5 (by omega), ef 6 (by omega)]
    exact ⟨hh (by omega) b1, hh (by omega) b2, hh (by omega) b3, hh (by omega) b4, hh (by omega) b5, hh (by omega) b6⟩
  · rw [e5, ef 7 (by omega)]
    exact fun z => ⟨by rw [up_k (by omega)]; exact (d z).1, hh (by omega) (d z).2.1, hh (by omega) (d z).2.2⟩
  · rw [e2]; exact n1
  · rw [e3]; exact n2
theorem wfB_sc (h : wfB W X NB NL) {i v : Int} (hi : (i = 4 ∧ 0 ≤ v ∧ v ≤ 100) ∨ (i = 7 ∧ 0 ≤ v ∧ v ≤ 999) ∨ (i = 0 ∧ 1 ≤ v ∧ v ≤ 8 ∧ W 0 2 = 0) ∨ (i = 1 ∧ 1 ≤ v ∧ v ≤ 6)) : wfB (uw W 0 i v) X NB NL := by
  obtain ⟨h1, h2, h3, h4, h5, h6, h7, h8, h9, h10⟩ := h
  have e2 : uw W 0 i v 0 2 = W 0 2 := uw_ne (by omega)
  have e3 : uw W 0 i v 0 3 = W 0 3 := uw_ne (by omega)
  have e5 : uw W 0 i v 0 5 = W 0 5 := uw_ne (by omega)
  have e6 : uw W 0 i v 0 6 = W 0 6 := uw_ne (by omega)
  have e8 : uw W 0 i v 0 8 = W 0 8 := uw_ne (by omega)
  have e9 : uw W 0 i v 0 9 = W 0 9 := uw_ne (by omega)
  have ef : ∀ a, ¬ a = 0 → uw W 0 i v a = W a := fun a ha => by funext z; exact uw_ne (by omega)
  have ef7 : ∀ j : Int, W 7 j = uw W 0 i v 7 j := fun j => by rw [ef 7 (by omega)]
  have hsc : ∀ j : Int, (j = i ∧ uw W 0 i v 0 j = v) ∨ (¬ j = i ∧ uw W 0 i v 0 j = W 0 j) := by
    intro j
    by_cases e : j = i
    · left; exact ⟨e, by rw [e, uw_eq]⟩
    · right; exact ⟨e, uw_ne (by omega)⟩
  have q0 := hsc 0
  have q1 := hsc 1
  have q4 := hsc 4
  have q7 := hsc 7
  refine ⟨?_, ?_, ?_, ?_, ?_, ?_, ?_, ?_, ?_, ?_⟩
  · rw [e2, e3, e5, e6, e8, e9]; omega
  · rw [ef 1 (by omega)]; exact h2
  · rw [ef 2 (by omega)]; exact h3
  · rw [e2, ef 3 (by omega), ef 4 (by omega), ef 5 (by omega)]
    intro z z1 z2
    have := h4 z z1 z2
    omega
  · rw [e3, ef 6 (by omega)]; exact h5
  · rw [e5]; exact fun z hz => okz_c ef7 (h6 z hz)
  · rw [e5, e6, ← fdep_c (V := W) (V' := uw W 0 i v) (fun j _ => ef7 j)]; exact h7
  · rw [e2]; exact h8
  · rw [e2]; exact h9
  · rw [e3]; exact h10
theorem wfB_X (h : wfB W X NB NL) {X' : Int32} (h5 : bit X' 5 = bit X 5) (hX : ¬ X' = iN 0) : wfB W X' NB NL := by
  obtain ⟨h1, h2, h3, h4, h5', h6, h7, h8, h9, h10⟩ := h
  exact ⟨h1, h2, h3, h4, h5', h6, by rw [h5]; exact h7, fun e => absurd e hX, h9, h10⟩
theorem rBd_X (h : rBd W X NB NL I J) {X' : Int32} (h5 : bit X' 5 = bit X 5) (h6 : bit X' 6 = bit X 6) (h7 : bit X' 7 = bit X 7) : rBd W X' NB NL I J := by
  obtain ⟨a, ⟨c1, c2, c3⟩, b, d, n⟩ := h
  exact ⟨a, ⟨by rw [h5]; exact c1, by rw [h6]; exact c2, by rw [h7]; exact c3⟩, b, by rw [h5]; exact d, n⟩
theorem TT_up (h : TT B m p I J I' J') (hr0 : r = 3 ∨ r = 19) {I1 I1' : (Nat → Nat → Int32)} (e : ∀ a k, ¬ (r ≤ a ∧ a ≤ r + 12) → ¬ (a = 16 ∧ (k = 9 ∨ k = 11 ∨ k = 12)) → I1 a k = I a k) (e' : ∀ a k, a = 62 ∨ a = 63 → ¬ (a = 62 ∧ (8 < k ∨ k = 3)) → I1' a k = I' a k) : TT B m p I1 J I1' J' :=
  ⟨cT_of hr0 h.1 e (fun _ _ _ => rfl), rT_of h.2.1 (fun k hk => e' 62 k (by omega) (by omega)) (fun j => e' 63 j (by omega) (by omega)) rfl, by rw [e' 62 2 (by omega) (by omega)]; exact h.2.2⟩
/-- flood, draw: one number -/
theorem LN_one (hr0 : r = 3 ∨ r = 19) (hw : wfB W X NB NL) (hX : ¬ X = iN 0) (hT : TT B m p I J I' J') (hc : cBd W X NB NL r I J) (hR : rBd W X NB NL I' J') (f1 : I 16 11 = iN 0) (f2 : I 16 12 = iN (-1)) (f3 : I' 62 3 = iN (-1)) {n : Nat} (hn : 1700 ≤ n) {hi i : Int} {j k : Nat} (hk : (k = 6 ∧ j = 44 ∧ i = 4 ∧ hi = 100) ∨ (k = 7 ∧ j = 45 ∧ i = 7 ∧ hi = 999)) :
    LN B m r p I J I' J' ((fX4_passNumber n 0 (iN hi) I J).bind fun o => (if o.1 = (-1) then some (0, o.2.1, o.2.2) else (fX4_passEndOfLine n (mm_up o.2.1 r k o.1) o.2.2).bind fun o1 => (if o1.1 = 0 ∨ o1.1 = 1 then some (o1.1, o1.2.1, o1.2.2) else none)))
      ((fX12_toldNumber n 0 (iN hi) I' J').bind fun o => fX12_readLine_J235 n (mm_up o.2.1 62 j o.1) o.2.2) := by
  rcases bt_num hT (lo := 0) (hi := hi) (by omega) (by omega) hn with ⟨I1, v, I1', b1, b2, b3, b4, b5⟩ | ⟨v, I1, J1, I1', J1', hv, b1, b2, b3, b4, b5, b6, b7, b8⟩
  · have b1 : fX4_passNumber n 0 (iN hi) I J = some (iN (-1), I1, J) := b1
    have b2 : fX12_toldNumber n 0 (iN hi) I' J' = some (v, I1', J') := b2
    rw [b1, b2, Option.bind_some, Option.bind_some]
    dsimp only
    rw [ite_p (show iN (-1) = (-1 : Int32) from rfl)]
    exact LN_F (FF_up b3 (up_k (by omega)) (up_k (by omega))) (lC_f b4) lCJ_refl (lR_trans (lR_f b5) (lR_up (by omega))) lRJ_refl
  · have b1 : fX4_passNumber n 0 (iN hi) I J = some (iN v, I1, J1) := b1
    have b2 : fX12_toldNumber n 0 (iN hi) I' J' = some (iN v, I1', J1') := b2
    rw [b1, b2, Option.bind_some, Option.bind_some]
    dsimp only
    rw [ite_n (show ¬ iN v = (-1 : Int32) by show ¬ iN v = iN (-1); rw [iN_eq (by omega) (by omega) (by omega) (by omega)]; omega)]
    have hT2 : TT B m (tN B m p) (mm_up I1 r k (iN v)) J1 (mm_up I1' 62 j (iN v)) J1' := TT_up b3 hr0 (fun a q h1 _ => up_o (by omega)) (fun a q h1 h2 => up_o (by omega))
    have := LN_end hr0 (wfB_sc hw (i := i) (v := v) (by omega)) hX hT2 (cBd_sc hr0 (cBd_k hr0 hc b5 b6) (j := k) (i := i) (by omega) v) (rBd_sc (rBd_r hR b7 b8) (j := j) (i := i) (by omega) v) (by rw [up_a (by omega), b5 _ _ (by omega)]; exact f1) (by rw [up_a (by omega), b5 _ _ (by omega)]; exact f2) (by rw [up_k (by omega), b7 _ _ (by omega)]; exact f3) hn
    exact LN_w (LN_x this (by omega) (lC_trans (lC_k b5) (fun a q _ h2 => up_o (by omega))) (lCJ_k b6) (lR_trans (lR_r b7) (lR_up (by omega))) (lRJ_r b8))
theorem LN_water (hr0 : r = 3 ∨ r = 19) (hw : wfB W X NB NL) (hX : ¬ X = iN 0) (h02 : W 0 2 = 0) (hT : TT B m p I J I' J') (hc : cBd W X NB NL r I J) (hR : rBd W X NB NL I' J') (f1 : I 16 11 = iN 0) (f2 : I 16 12 = iN (-1)) (f3 : I' 62 3 = iN (-1)) {n : Nat} (hn : 1700 ≤ n) :
    LN B m r p I J I' J' (fX4_readWater n I J r) ((fX12_toldNumber n 1 8 I' J').bind fun o375 => (fX12_told n 25209 1 6 (mm_up o375.2.1 62 38 o375.1) o375.2.2).bind fun o376 => fX12_readLine_J235 n (mm_up o376.2.1 62 39 o376.1) o376.2.2) := by
  rw [fX4_readWater]
  rcases bt_num hT (lo := 1) (hi := 8) (by omega) (by omega) hn with ⟨I1, v, I1', b1, b2, b3, b4, b5⟩ | ⟨v, I1, J1, I1', J1', hv, b1, b2, b3, b4, b5, b6, b7, b8⟩
  · have b1 : fX4_passNumber n 1 8 I J = some (iN (-1), I1, J) := b1
    have b2 : fX12_toldNumber n 1 8 I' J' = some (v, I1', J') := b2
    rw [b1, b2, Option.bind_some, Option.bind_some]
    dsimp only
    have hf := hasF_up (FF_has b3) (I' := mm_up I1' 62 38 v) (up_k (by omega))
    rw [ite_p (show iN (-1) = (-1 : Int32) from rfl), told_F hf, Option.bind_some]
    exact LN_F (FF_up b3 (by rw [up_k (by omega), up_k (by omega)]) (by rw [up_k (by omega), up_k (by omega)])) (lC_f b4) lCJ_refl (lR_trans (lR_f b5) (lR_trans (lR_up (by omega)) (lR_up (by omega)))) lRJ_refl
  · have b1 : fX4_passNumber n 1 8 I J = some (iN v, I1, J1) := b1
    have b2 : fX12_toldNumber n 1 8 I' J' = some (iN v, I1', J1') := b2
    rw [b1, b2, Option.bind_some, Option.bind_some]
    dsimp only
    rw [ite_n (show ¬ iN v = (-1 : Int32) by show ¬ iN v = iN (-1); rw [iN_eq (by omega) (by omega) (by omega) (by omega)]; omega), fX12_told]
    have hT2 : TT B m (tN B m p) I1 J1 (mm_up I1' 62 38 (iN v)) J1' := TT_up b3 hr0 (fun a q h1 _ => rfl) (fun a q h1 h2 => up_o (by omega))
    rcases bt_word hT2 (k := 8) (by omega) (x := 25209) (by decide) hn with ⟨I2, I2', c1, c2, c3, c4, c5⟩ | ⟨I2, J2, I2', J2', c1, c2, c3, c4, c5, c6, c7, c8⟩
    · have c1 : fX4_passWord n 8 I1 J1 = some (iN 0, I2, J1) := c1
      rw [c1, c2, Option.bind_some, Option.bind_some, num_F (FF_has c3), Option.bind_some, Option.bind_some]
      dsimp only
      rw [ite_p (show iN 0 = (0 : Int32) from rfl)]
      exact LN_F (FF_up c3 (up_k (by omega)) (up_k (by omega))) (lC_trans (lC_k b5) (lC_f c4)) (lCJ_k b6) (lR_trans (lR_r b7) (lR_trans (lR_up (by omega)) (lR_trans (lR_f c5) (lR_up (by omega))))) (lRJ_r b8)
    · have c1 : fX4_passWord n 8 I1 J1 = some (iN 1, I2, J2) := c1
      rw [c1, c2, Option.bind_some, Option.bind_some]
      dsimp only
      rw [ite_n (show ¬ iN 1 = (0 : Int32) from n10)]
      rcases bt_num c3 (lo := 1) (hi := 6) (by omega) (by omega) hn with ⟨I3, w, I3', d1, d2, d3, d4, d5⟩ | ⟨w, I3, J3, I3', J3', hw', d1, d2, d3, d4, d5, d6, d7, d8⟩
      · have d1 : fX4_passNumber n 1 6 I2 J2 = some (iN (-1), I3, J2) := d1
        have d2 : fX12_toldNumber n 1 6 I2' J2' = some (w, I3', J2') := d2
        rw [d1, d2, Option.bind_some, Option.bind_some, Option.bind_some]
        dsimp only
        rw [ite_p (show iN (-1) = (-1 : Int32) from rfl)]
        exact LN_F (FF_up d3 (up_k (by omega)) (up_k (by omega))) (lC_trans (lC_k b5) (lC_trans (lC_k c5) (lC_f d4))) (lCJ_trans (lCJ_k b6) (lCJ_k c6)) (lR_trans (lR_r b7) (lR_trans (lR_up (by omega)) (lR_trans (lR_r c7) (lR_trans (lR_f d5) (lR_up (by omega)))))) (lRJ_trans (lRJ_r b8) (lRJ_r c8))
      · have d1 : fX4_passNumber n 1 6 I2 J2 = some (iN w, I3, J3) := d1
        have d2 : fX12_toldNumber n 1 6 I2' J2' = some (iN w, I3', J3') := d2
        rw [d1, d2, Option.bind_some, Option.bind_some, Option.bind_some]
        dsimp only
        rw [ite_n (show ¬ iN w = (-1 : Int32) by show ¬ iN w = iN (-1); rw [iN_eq (by omega) (by omega) (by omega) (by omega)]; omega)]
        have hT4 : TT B m (tN B m (tN B m (tN B m p))) (mm_up (mm_up I3 r 0 (iN v)) r 1 (iN w)) J3 (mm_up I3' 62 39 (iN w)) J3' := TT_up d3 hr0 (fun a q h1 _ => by rw [up_o (by omega), up_o (by omega)]) (fun a q h1 h2 => up_o (by omega))
        have hw1 := wfB_sc hw (i := 0) (v := v) (by omega)
        have hw2 := wfB_sc hw1 (i := 1) (v := w) (by omega)
        have hc2 := cBd_sc hr0 (cBd_sc hr0 (cBd_k hr0 (cBd_k hr0 (cBd_k hr0 hc b5 b6) c5 c6) d5 d6) (j := 0) (i := 0) (by omega) v) (j := 1) (i := 1) (by omega) w
        have hR2 := rBd_sc (rBd_r (rBd_r (rBd_sc (rBd_r hR b7 b8) (j := 38) (i := 0) (by omega) v) c7 c8) d7 d8) (j := 39) (i := 1) (by omega) w
        have := LN_end hr0 hw2 hX hT4 hc2 hR2 (by rw [up_a (by omega), up_a (by omega), d5 _ _ (by omega), c5 _ _ (by omega), b5 _ _ (by omega)]; exact f1) (by rw [up_a (by omega), up_a (by omega), d5 _ _ (by omega), c5 _ _ (by omega), b5 _ _ (by omega)]; exact f2) (by rw [up_k (by omega), d7 _ _ (by omega), c7 _ _ (by omega), up_k (by omega), b7 _ _ (by omega)]; exact f3) hn
        exact LN_w (LN_x this (by omega) (lC_trans (lC_k b5) (lC_trans (lC_k c5) (lC_trans (lC_k d5) (fun a q _ h2 => by rw [up_o (by omega), up_o (by omega)])))) (lCJ_trans (lCJ_k b6) (lCJ_trans (lCJ_k c6) (lCJ_k d6))) (lR_trans (lR_r b7) (lR_trans (lR_up (by omega)) (lR_trans (lR_r c7) (lR_trans (lR_r d7) (lR_up (by omega)))))) (lRJ_trans (lRJ_r b8) (lRJ_trans (lRJ_r c8) (lRJ_r d8))))
end LNW
