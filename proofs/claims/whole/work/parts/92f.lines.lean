/-! LINES: loads and boards. -/
def un (N : Nat → List Int) (c : Nat) (w : List Int) : Nat → List Int := fun k => if k = c then w else N k
theorem hr_e {I : (Nat → Nat → Int32)} {a : Nat} {n x : Int} {F : Int → Int} (h : hr I a n F) (hn : 0 ≤ n) (e : I a n.toNat = iN x) : hr I a (n + 1) (ud F n x) := by
  intro z h1 h2
  unfold ud
  by_cases hz : z = n
  · rw [if_pos hz, hz]; exact e
  · rw [if_neg hz]; exact h z h1 (by omega)
theorem hr_b {I : (Nat → Nat → Int32)} {a : Nat} {n : Int} {F : Int → Int} (h : hr I a n F) (hn : 0 ≤ n) {x : Int32} : hr (mm_up I a n.toNat x) a n F := by
  intro z h1 h2
  rw [up_k (by omega)]; exact h z h1 h2
section LNB
variable {B : Nat → Int} {m r p : Nat} {I : (Nat → Nat → Int32)} {J : mJ} {I' : (Nat → Nat → Int32)} {J' : mJ} {W : (Nat → Int → Int)} {X : Int32} {NB NL : Nat → List Int}
/-- beyond the counts anything may lie -/
theorem cBd_bey (hr0 : r = 3 ∨ r = 19) (hw : wfB W X NB NL) (h : cBd W X NB NL r I J) {I1 : (Nat → Nat → Int32)} {J1 : mJ} (e : ∀ a k, ¬ ((a = r + 7 ∨ a = r + 8 ∨ a = r + 9) ∧ k = (W 0 2).toNat) → ¬ (a = r + 11 ∧ k = (W 0 3).toNat) → I1 a k = I a k) (e' : ∀ a k, ¬ (a = r + 10 ∧ k = (W 0 2).toNat) → ¬ (a = r + 12 ∧ k = (W 0 3).toNat) → J1 a k = J a k) : cBd W X NB NL r I1 J1 := by
  obtain ⟨h0, ⟨a1, a2, a3, a4, a5, a6, a7, a8, a9, a10⟩, ⟨b1, b2, b3, b4, b5, b6, b7⟩, n1, n2⟩ := h
  have hb := hw.1
  refine ⟨by rw [e _ _ (by omega) (by omega)]; exact h0, ⟨?_, ?_, ?_, ?_, ?_, ?_, ?_, ?_, ?_, ?_⟩, ⟨fun z h1 h2 => ?_, fun z h1 h2 => ?_, fun z h1 h2 => ?_, fun z h1 h2 => ?_, fun z h1 h2 => ?_, fun z h1 h2 => ?_, fun z h1 h2 => ?_⟩, fun k hk => ?_, fun k hk => ?_⟩
  any_goals (rw [e _ _ (by omega) (by omega)]; assumption)
  · rw [e _ _ (by omega) (by omega)]; exact b1 z h1 h2
  · rw [e _ _ (by omega) (by omega)]; exact b2 z h1 h2
  · rw [e _ _ (by omega) (by omega)]; exact b3 z h1 h2
  · rw [e _ _ (by omega) (by omega)]; exact b4 z h1 h2
  · rw [e _ _ (by omega) (by omega)]; exact b5 z h1 h2
  · rw [e _ _ (by omega) (by omega)]; exact b6 z h1 h2
  · rw [e _ _ (by omega) (by omega)]; exact b7 z h1 h2
  · rw [e' _ _ (by omega) (by omega)]; exact n1 k hk
  · rw [e' _ _ (by omega) (by omega)]; exact n2 k hk
theorem rBd_bey (hw : wfB W X NB NL) (h : rBd W X NB NL I J) {I1 : (Nat → Nat → Int32)} {J1 : mJ} (e : ∀ a k, ¬ ((a = 74 ∨ a = 75 ∨ a = 76) ∧ k = (W 0 2).toNat) → ¬ (a = 77 ∧ k = (W 0 3).toNat) → I1 a k = I a k) (e' : ∀ k, ¬ (k = (W 0 2).toNat ∧ W 0 2 < 4) → ¬ k = 4 + (W 0 3).toNat → J1 64 k = J 64 k) : rBd W X NB NL I1 J1 := by
  obtain ⟨⟨a1, a2, a3, a4, a5, a6, a7, a8, a9⟩, ⟨c1, c2, c3⟩, ⟨b1, b2, b3, b4, b5, b6⟩, d, n1, n2⟩ := h
  have hb := hw.1
  refine ⟨⟨?_, ?_, ?_, ?_, ?_, ?_, ?_, ?_, ?_⟩, ⟨?_, ?_, ?_⟩, ⟨fun z h1 h2 => ?_, fun z h1 h2 => ?_, fun z h1 h2 => ?_, fun z h1 h2 => ?_, fun z h1 h2 => ?_, fun z h1 h2 => ?_⟩, fun q => ⟨?_, fun z h1 h2 => ?_, fun z h1 h2 => ?_⟩, fun k hk => ?_, fun k hk => ?_⟩
  any_goals (rw [e _ _ (by omega) (by omega)]; assumption)
  · rw [e _ _ (by omega) (by omega)]; exact b1 z h1 h2
  · rw [e _ _ (by omega) (by omega)]; exact b2 z h1 h2
  · rw [e _ _ (by omega) (by omega)]; exact b3 z h1 h2
  · rw [e _ _ (by omega) (by omega)]; exact b4 z h1 h2
  · rw [e _ _ (by omega) (by omega)]; exact b5 z h1 h2
  · rw [e _ _ (by omega) (by omega)]; exact b6 z h1 h2
  · rw [e _ _ (by omega) (by omega)]; exact (d q).1
  · rw [e _ _ (by omega) (by omega)]; exact (d q).2.1 z h1 h2
  · rw [e _ _ (by omega) (by omega)]; exact (d q).2.2 z h1 h2
  · rw [e' _ (by omega) (by omega)]; exact n1 k hk
  · rw [e' _ (by omega) (by omega)]; exact n2 k hk
theorem cBd_load (hr0 : r = 3 ∨ r = 19) (hw : wfB W X NB NL) (h : cBd W X NB NL r I J) {v : Int} {w : List Int} (h1 : I (r + 11) (W 0 3).toNat = iN v) (h2 : J (r + 12) (W 0 3).toNat = iL (c27 w)) : cBd (uw (uw W 6 (W 0 3) v) 0 3 (W 0 3 + 1)) X NB (un NL (W 0 3).toNat w) r (mm_up I r 5 (iN (W 0 3 + 1))) J := by
  obtain ⟨h0, ⟨a1, a2, a3, a4, a5, a6, a7, a8, a9, a10⟩, ⟨b1, b2, b3, b4, b5, b6, b7⟩, n1, n2⟩ := h
  have hb := hw.1
  have e : ∀ j, ¬ j = 3 → (uw (uw W 6 (W 0 3) v) 0 3 (W 0 3 + 1)) 0 j = W 0 j := fun j hj => by rw [uw_ne (by omega), uw_ne (by omega)]
  have ee : (uw (uw W 6 (W 0 3) v) 0 3 (W 0 3 + 1)) 0 3 = W 0 3 + 1 := uw_eq
  have er : ∀ a, ¬ a = 0 → ¬ a = 6 → (uw (uw W 6 (W 0 3) v) 0 3 (W 0 3 + 1)) a = W a := fun a h1 h2 => by rw [uw_row h1, uw_row h2]
  have e1 : (uw (uw W 6 (W 0 3) v) 0 3 (W 0 3 + 1)) 6 = ud (W 6) (W 0 3) v := by rw [uw_row (by omega), uw_ud]
  have hh : ∀ {a : Nat} {n : Int} {F : Int → Int}, ¬ a = r → hr I a n F → hr (mm_up I r 5 (iN (W 0 3 + 1))) a n F := fun ha h z h1 h2 => by rw [up_a ha]; exact h z h1 h2
  refine ⟨by rw [up_a (by omega)]; exact h0, ?_, ?_, ?_, ?_⟩
  · rw [e 0 (by omega), e 1 (by omega), e 8 (by omega), e 9 (by omega), e 2 (by omega), e 4 (by omega), e 7 (by omega), e 5 (by omega), e 6 (by omega), ee]
    refine ⟨?_, ?_, ?_, ?_, ?_, ?_, ?_, ?_, ?_, ?_⟩
    all_goals (first | exact up_eq | (rw [up_k (by omega)]; assumption) | (rw [up_a (by omega)]; assumption))
  · rw [e 2 (by omega), e 5 (by omega), ee, er 1 (by omega) (by omega), er 2 (by omega) (by omega), er 3 (by omega) (by omega), er 4 (by omega) (by omega), er 5 (by omega) (by omega), er 7 (by omega) (by omega), e1]
    exact ⟨hh (by omega) b1, hh (by omega) b2, hh (by omega) b3, hh (by omega) b4, hh (by omega) b5, hh (by omega) (hr_e b6 (by omega) h1), hh (by omega) b7⟩
  · rw [e 2 (by omega)]; exact n1
  · rw [ee]
    intro k hk
    unfold un
    by_cases hk2 : k = (W 0 3).toNat
    · rw [if_pos hk2, hk2]; exact h2
    · rw [if_neg hk2]; exact n2 k (by omega)
theorem rBd_load (hw : wfB W X NB NL) (h : rBd W X NB NL I J) {v : Int} {w : List Int} (h1 : I 77 (W 0 3).toNat = iN v) (h2 : J 64 (4 + (W 0 3).toNat) = iL (c256 w)) : rBd (uw (uw W 6 (W 0 3) v) 0 3 (W 0 3 + 1)) X NB (un NL (W 0 3).toNat w) (mm_up I 62 43 (iN (W 0 3 + 1))) J := by
  obtain ⟨⟨a1, a2, a3, a4, a5, a6, a7, a8, a9⟩, ⟨c1, c2, c3⟩, ⟨b1, b2, b3, b4, b5, b6⟩, d, n1, n2⟩ := h
  have hb := hw.1
  have e : ∀ j, ¬ j = 3 → (uw (uw W 6 (W 0 3) v) 0 3 (W 0 3 + 1)) 0 j = W 0 j := fun j hj => by rw [uw_ne (by omega), uw_ne (by omega)]
  have ee : (uw (uw W 6 (W 0 3) v) 0 3 (W 0 3 + 1)) 0 3 = W 0 3 + 1 := uw_eq
  have er : ∀ a, ¬ a = 0 → ¬ a = 6 → (uw (uw W 6 (W 0 3) v) 0 3 (W 0 3 + 1)) a = W a := fun a h1 h2 => by rw [uw_row h1, uw_row h2]
  have e1 : (uw (uw W 6 (W 0 3) v) 0 3 (W 0 3 + 1)) 6 = ud (W 6) (W 0 3) v := by rw [uw_row (by omega), uw_ud]
  have hh : ∀ {a : Nat} {n : Int} {F : Int → Int}, ¬ a = 62 → hr I a n F → hr (mm_up I 62 43 (iN (W 0 3 + 1))) a n F := fun ha h z h1 h2 => by rw [up_a ha]; exact h z h1 h2
  refine ⟨?_, ⟨by rw [up_k (by omega)]; exact c1, by rw [up_k (by omega)]; exact c2, by rw [up_k (by omega)]; exact c3⟩, ?_, ?_, ?_, ?_⟩
  · rw [e 0 (by omega), e 1 (by omega), e 8 (by omega), e 9 (by omega), e 2 (by omega), e 4 (by omega), e 7 (by omega), e 6 (by omega), ee]
    refine ⟨?_, ?_, ?_, ?_, ?_, ?_, ?_, ?_, ?_⟩
    all_goals (first | exact up_eq | (rw [up_k (by omega)]; assumption))
  · rw [e 2 (by omega), ee, er 1 (by omega) (by omega), er 2 (by omega) (by omega), er 3 (by omega) (by omega), er 4 (by omega) (by omega), er 5 (by omega) (by omega), e1]
    exact ⟨hh (by omega) b1, hh (by omega) b2, hh (by omega) b3, hh (by omega) b4, hh (by omega) b5, hh (by omega) (hr_e b6 (by omega) h1)⟩
  · rw [e 5 (by omega), er 7 (by omega) (by omega)]
    exact fun z => ⟨by rw [up_k (by omega)]; exact (d z).1, hh (by omega) (d z).2.1, hh (by omega) (d z).2.2⟩
  · rw [e 2 (by omega)]; exact n1
  · rw [ee]
    intro k hk
    unfold un
    by_cases hk2 : k = (W 0 3).toNat
    · rw [if_pos hk2, hk2]; exact h2
    · rw [if_neg hk2]; exact n2 k (by omega)
theorem wfB_load (h : wfB W X NB NL) {v : Int} {w : List Int} (hv : 0 ≤ v ∧ v ≤ 99) (hm : W 0 3 < 7) (hwd : wrd w) : wfB (uw (uw W 6 (W 0 3) v) 0 3 (W 0 3 + 1)) X NB (un NL (W 0 3).toNat w) := by
  obtain ⟨h1, h2, h3, h4, h5, h6, h7, h8, h9, h10⟩ := h
  have e : ∀ j, ¬ j = 3 → (uw (uw W 6 (W 0 3) v) 0 3 (W 0 3 + 1)) 0 j = W 0 j := fun j hj => by rw [uw_ne (by omega), uw_ne (by omega)]
  have ee : (uw (uw W 6 (W 0 3) v) 0 3 (W 0 3 + 1)) 0 3 = W 0 3 + 1 := uw_eq
  have er : ∀ a, ¬ a = 0 → ¬ a = 6 → (uw (uw W 6 (W 0 3) v) 0 3 (W 0 3 + 1)) a = W a := fun a h1 h2 => by rw [uw_row h1, uw_row h2]
  have e1 : (uw (uw W 6 (W 0 3) v) 0 3 (W 0 3 + 1)) 6 = ud (W 6) (W 0 3) v := by rw [uw_row (by omega), uw_ud]
  have ef7 : ∀ j : Int, W 7 j = (uw (uw W 6 (W 0 3) v) 0 3 (W 0 3 + 1)) 7 j := fun j => by rw [er 7 (by omega) (by omega)]
  have f7 := fdep_c (V := W) (V' := uw (uw W 6 (W 0 3) v) 0 3 (W 0 3 + 1)) (z := (W 0 5).toNat) (fun j _ => ef7 j)
  refine ⟨?_, ?_, ?_, ?_, ?_, ?_, ?_, ?_, ?_, ?_⟩
  · rw [e 0 (by omega), e 1 (by omega), e 8 (by omega), e 9 (by omega), e 2 (by omega), e 4 (by omega), e 7 (by omega), e 5 (by omega), e 6 (by omega), ee]; omega
  · rw [er 1 (by omega) (by omega)]; exact h2
  · rw [er 2 (by omega) (by omega)]; exact h3
  · rw [e 0 (by omega), e 2 (by omega), er 3 (by omega) (by omega), er 4 (by omega) (by omega), er 5 (by omega) (by omega)]; exact h4
  · rw [ee, e1]
    intro q q1 q2
    unfold ud
    by_cases e0 : q = W 0 3
    · rw [if_pos e0]; exact hv
    · rw [if_neg e0]; exact h5 q q1 (by omega)
  · rw [e 5 (by omega)]; exact fun q hq => okz_c ef7 (h6 q hq)
  · rw [e 5 (by omega), e 6 (by omega), ← f7]; exact h7
  · rw [e 2 (by omega)]; exact h8
  · rw [e 2 (by omega)]; exact h9
  · rw [ee]
    intro k hk
    unfold un
    by_cases hk2 : k = (W 0 3).toNat
    · rw [if_pos hk2]; exact hwd
    · rw [if_neg hk2]; exact h10 k (by omega)
theorem LN_load (hr0 : r = 3 ∨ r = 19) (hw : wfB W X NB NL) (hX : ¬ X = iN 0) (hm : W 0 3 < 7) (hT : TT B m p I J I' J') (hc : cBd W X NB NL r I J) (hR : rBd W X NB NL I' J') (f1 : I 16 11 = iN 0) (f2 : I 16 12 = iN (-1)) (f3 : I' 62 3 = iN (-1)) {n : Nat} (hn : 1700 ≤ n) :
    LN B m r p I J I' J' (fX4_readLoad n I J r) ((if (fX12_isName I' J') = 0 then (fX12_newName_J16 n 4 (iN (W 0 3)) (fX12_wrong 2 I') J') else (fX12_newName_J16 n 4 (iN (W 0 3)) I' J')).bind fun o413 => (fX12_told n 2003395685 0 99 o413.1 o413.2).bind fun o414 => (if (o413.1 62 43) < 0 ∨ 7 ≤ (o413.1 62 43).toNatClampNeg then none else (if (o414.2.1 62 2) = 0 then some ((mm_up (mm_up o414.2.1 77 (o413.1 62 43).toNatClampNeg o414.1) 62 43 ((o414.2.1 62 43) + 1)), o414.2.2) else some ((mm_up o414.2.1 77 (o413.1 62 43).toNatClampNeg o414.1), o414.2.2))).bind fun o440 => fX12_readLine_J235 n o440.1 o440.2) := by
  have hb := hw.1
  have e43 : I' 62 43 = iN (W 0 3) := hR.1.2.2.2.2.2.1
  have eg : ¬ (iN (W 0 3) < (0 : Int32) ∨ 7 ≤ (iN (W 0 3)).toNatClampNeg) := by
    show ¬ (iN _ < iN 0 ∨ _)
    rw [iN_lt (by omega) (by omega) (by omega) (by omega), iN_tn (by omega) (by omega)]; omega
  /- behind a fault -/
  have tail : ∀ (M M2 : (Nat → Nat → Int32)) (L : mJ) (v : Int32), hasF M2 → M 62 43 = iN (W 0 3) → (if (M 62 43) < 0 ∨ 7 ≤ (M 62 43).toNatClampNeg then none else (if (M2 62 2) = 0 then some ((mm_up (mm_up M2 77 (M 62 43).toNatClampNeg v) 62 43 ((M2 62 43) + 1)), L) else some ((mm_up M2 77 (M 62 43).toNatClampNeg v), L))).bind (fun o440 => fX12_readLine_J235 n o440.1 o440.2) = fX12_readLine_J235 n (mm_up M2 77 (W 0 3).toNat v) L := by
    intro M M2 L v hf e
    rw [e, ite_n eg, ite_n (hasF_no hf).1, iN_tn (by omega) (by omega)]
    rfl
  rw [fX4_readLoad]
  rcases bt_name_l hT hw hm hc hR hn with ⟨I1, I1', b1, b2, b3, b4, b5⟩ | ⟨hwd, k1, b0, I1, J1, I1', J1', b1, b2, b3, b4, b5, b6, b7, b8⟩
  · have b1 : fX4_isNewName n 0 I J r = some (iN 0, I1) := b1
    rw [b1, b2, Option.bind_some, Option.bind_some]
    dsimp only
    rw [ite_p (show iN 0 = (0 : Int32) from rfl), told_F (FF_has b3), Option.bind_some]
    dsimp only
    rw [tail _ _ _ _ (FF_has b3) (by rw [b5 _ _ (by omega)]; exact e43)]
    exact LN_F (FF_up b3 (by rw [up_a (by omega)]) (by rw [up_a (by omega)])) (lC_f b4) lCJ_refl (lR_trans (lR_f b5) (lR_row (by omega))) lRJ_refl
  · have b0 : fX4_isNewName n 0 I J r = some (iN 1, I) := b0
    rw [b0, b2, Option.bind_some, Option.bind_some]
    dsimp only
    rw [ite_n (show ¬ iN 1 = (0 : Int32) from n10), b1, Option.bind_some, fX12_told]
    dsimp only
    have eJ : J 16 8 = iL (c27 (tW B m p)) := hT.1.2.2.2.2.2.2.2.2 k1
    have hc1 := cBd_k hr0 hc b5 b6
    have hR0 : rBd W X NB NL I' (mm_up J' 64 (4 + (W 0 3).toNat) (iL (c256 (tW B m p)))) := rBd_bey hw hR (fun _ _ _ _ => rfl) (fun k h1 h2 => up_k (by omega))
    have hR1 := rBd_r hR0 b7 b8
    have j1 : J1' 64 (4 + (W 0 3).toNat) = iL (c256 (tW B m p)) := by rw [b8 _ _ (by omega), up_eq]
    have frJ : lRJ J' J1' := fun a k h1 h2 => by rw [b8 a k h1, up_a h2]
    have e43' : I1' 62 43 = iN (W 0 3) := by rw [b7 _ _ (by omega)]; exact e43
    rcases bt_word b3 (k := 10) (by omega) (x := 2003395685) (by decide) hn with ⟨I2, I2', c1, c2, c3, c4, c5⟩ | ⟨I2, J2, I2', J2', c1, c2, c3, c4, c5, c6, c7, c8⟩
    · have c1 : fX4_passWord n 10 I1 J1 = some (iN 0, I2, J1) := c1
      rw [c1, c2, Option.bind_some, Option.bind_some, num_F (FF_has c3), Option.bind_some, Option.bind_some]
      dsimp only
      rw [ite_p (show iN 0 = (0 : Int32) from rfl), tail _ _ _ _ (FF_has c3) e43']
      exact LN_F (FF_up c3 (by rw [up_a (by omega)]) (by rw [up_a (by omega)])) (lC_trans (lC_k b5) (lC_f c4)) (lCJ_k b6) (lR_trans (lR_r b7) (lR_trans (lR_f c5) (lR_row (by omega)))) frJ
    · have c1 : fX4_passWord n 10 I1 J1 = some (iN 1, I2, J2) := c1
      rw [c1, c2, Option.bind_some, Option.bind_some]
      dsimp only
      rw [ite_n (show ¬ iN 1 = (0 : Int32) from n10)]
      rcases bt_num c3 (lo := 0) (hi := 99) (by omega) (by omega) hn with ⟨I3, x, I3', d1, d2, d3, d4, d5⟩ | ⟨v, I3, J3, I3', J3', hv, d1, d2, d3, d4, d5, d6, d7, d8⟩
      · have d1 : fX4_passNumber n 0 99 I2 J2 = some (iN (-1), I3, J2) := d1
        have d2 : fX12_toldNumber n 0 99 I2' J2' = some (x, I3', J2') := d2
        rw [d1, d2, Option.bind_some, Option.bind_some, Option.bind_some]
        dsimp only
        rw [ite_p (show iN (-1) = (-1 : Int32) from rfl), tail _ _ _ _ (FF_has d3) e43']
        exact LN_F (FF_up d3 (by rw [up_a (by omega)]) (by rw [up_a (by omega)])) (lC_trans (lC_k b5) (lC_trans (lC_k c5) (lC_f d4))) (lCJ_trans (lCJ_k b6) (lCJ_k c6)) (lR_trans (lR_r b7) (lR_trans (lR_r c7) (lR_trans (lR_f d5) (lR_row (by omega))))) (lRJ_trans frJ (lRJ_r c8))
      · have d1 : fX4_passNumber n 0 99 I2 J2 = some (iN v, I3, J3) := d1
        have d2 : fX12_toldNumber n 0 99 I2' J2' = some (iN v, I3', J3') := d2
        rw [d1, d2, Option.bind_some, Option.bind_some, Option.bind_some]
        dsimp only
        have hc3 := cBd_k hr0 (cBd_k hr0 hc1 c5 c6) d5 d6
        have hR3 := rBd_r (rBd_r hR1 c7 c8) d7 d8
        have j3 : J3' 64 (4 + (W 0 3).toNat) = iL (c256 (tW B m p)) := by rw [d8 _ _ (by omega), c8 _ _ (by omega)]; exact j1
        have e5 : I3 r 5 = iN (W 0 3) := hc3.2.1.2.2.2.2.2.1
        have e43'' : I3' 62 43 = iN (W 0 3) := hR3.1.2.2.2.2.2.1
        have i1 : (iN (W 0 3) + 1 : Int32) = iN (W 0 3 + 1) := iN_add _ 1
        rw [ite_n (show ¬ iN v = (-1 : Int32) by show ¬ iN v = iN (-1); rw [iN_eq (by omega) (by omega) (by omega) (by omega)]; omega)]
        simp only [e43']
        rw [ite_n eg, ite_p (show I3' 62 2 = (0 : Int32) from d3.2.2), e43'', iN_tn (by omega) (by omega), i1, Option.bind_some]
        dsimp only
        have hadd : fX5_addLoad (J 16 8) (iN v) r I3 J3 = some (mm_up (mm_up I3 (r + 11) (W 0 3).toNat (iN v)) r 5 (iN (W 0 3 + 1)), mm_up J3 (r + 12) (W 0 3).toNat (iL (c27 (tW B m p)))) := by
          rw [fX5_addLoad, e5, ite_p (show iN (W 0 3) < (7 : Int32) by show iN _ < iN 7; rw [iN_lt (by omega) (by omega) (by omega) (by omega)]; omega), ite_n eg, iN_put (by omega) (by omega) (by omega), up_a (by omega), e5, iN_tn (by omega) (by omega), eJ, i1]
        rw [hadd, Option.bind_some]
        dsimp only
        have hc4 : cBd W X NB NL r (mm_up I3 (r + 11) (W 0 3).toNat (iN v)) (mm_up J3 (r + 12) (W 0 3).toNat (iL (c27 (tW B m p)))) := cBd_bey hr0 hw hc3 (fun a k h1 h2 => up_o h2) (fun a k h1 h2 => by
          show (if a = r + 12 ∧ k = (W 0 3).toNat then _ else J3 a k) = J3 a k
          rw [if_neg h2])
        have hc5 := cBd_load hr0 hw hc4 (v := v) (w := tW B m p) up_eq up_eq
        have hR4 : rBd W X NB NL (mm_up I3' 77 (W 0 3).toNat (iN v)) J3' := rBd_bey hw hR3 (fun a k h1 h2 => up_o h2) (fun _ _ _ => rfl)
        have hR5 := rBd_load hw hR4 (v := v) (w := tW B m p) up_eq j3
        have hT4 : TT B m (tN B m (tN B m (tN B m p))) (mm_up (mm_up I3 (r + 11) (W 0 3).toNat (iN v)) r 5 (iN (W 0 3 + 1))) (mm_up J3 (r + 12) (W 0 3).toNat (iL (c27 (tW B m p)))) (mm_up (mm_up I3' 77 (W 0 3).toNat (iN v)) 62 43 (iN (W 0 3 + 1))) J3' := by
          refine ⟨cT_of hr0 d3.1 (fun a k h1 _ => by rw [up_o (by omega), up_o (by omega)]) (fun a k h1 => ?_), rT_of d3.2.1 (fun k hk => by rw [up_k (by omega), up_a (by omega)]) (fun j => by rw [up_a (by omega), up_a (by omega)]) rfl, by rw [up_k (by omega), up_a (by omega)]; exact d3.2.2⟩
          show (if a = r + 12 ∧ k = (W 0 3).toNat then _ else J3 a k) = J3 a k
          rw [if_neg (by omega)]
        have := LN_end hr0 (wfB_load hw (v := v) (w := tW B m p) hv hm hwd) hX hT4 hc5 hR5 (by rw [up_a (by omega), up_a (by omega), d5 _ _ (by omega), c5 _ _ (by omega), b5 _ _ (by omega)]; exact f1) (by rw [up_a (by omega), up_a (by omega), d5 _ _ (by omega), c5 _ _ (by omega), b5 _ _ (by omega)]; exact f2) (by rw [up_k (by omega), up_a (by omega), d7 _ _ (by omega), c7 _ _ (by omega), b7 _ _ (by omega)]; exact f3) hn
        refine LN_w (LN_x this (by omega) (lC_trans (lC_k b5) (lC_trans (lC_k c5) (lC_trans (lC_k d5) (fun a q _ h2 => by rw [up_o (by omega), up_o (by omega)])))) (lCJ_trans (lCJ_k b6) (lCJ_trans (lCJ_k c6) (lCJ_trans (lCJ_k d6) (fun a q _ h2 => ?_)))) (lR_trans (lR_r b7) (lR_trans (lR_r c7) (lR_trans (lR_r d7) (lR_trans (lR_row (by omega)) (lR_up (by omega)))))) (lRJ_trans frJ (lRJ_trans (lRJ_r c8) (lRJ_r d8))))
        show (if a = r + 12 ∧ q = (W 0 3).toNat then _ else J3 a q) = J3 a q
        rw [if_neg (by omega)]
end LNB
