/-! LINES: boards. -/
def ub (W : (Nat → Int → Int)) (a s b : Int) : (Nat → Int → Int) := uw (uw (uw (uw W 3 (W 0 2) a) 4 (W 0 2) s) 5 (W 0 2) b) 0 2 (W 0 2 + 1)
section LNO
variable {B : Nat → Int} {m r p : Nat} {I : (Nat → Nat → Int32)} {J : mJ} {I' : (Nat → Nat → Int32)} {J' : mJ} {W : (Nat → Int → Int)} {X : Int32} {NB NL : Nat → List Int}
theorem ub_0 {a s b j : Int} (hj : ¬ j = 2) : ub W a s b 0 j = W 0 j := by unfold ub; rw [uw_ne (by omega), uw_ne (by omega), uw_ne (by omega), uw_ne (by omega)]
theorem ub_2 {a s b : Int} : ub W a s b 0 2 = W 0 2 + 1 := uw_eq
theorem ub_r {a s b : Int} {k : Nat} (h0 : ¬ k = 0) (h3 : ¬ k = 3) (h4 : ¬ k = 4) (h5 : ¬ k = 5) : ub W a s b k = W k := by unfold ub; rw [uw_row h0, uw_row h5, uw_row h4, uw_row h3]
theorem ub_3 {a s b : Int} : ub W a s b 3 = ud (W 3) (W 0 2) a := by unfold ub; rw [uw_row (by omega), uw_row (by omega), uw_row (by omega), uw_ud]
theorem ub_4 {a s b : Int} : ub W a s b 4 = ud (W 4) (W 0 2) s := by unfold ub; rw [uw_row (by omega), uw_row (by omega), uw_ud, uw_row (by omega)]
theorem ub_5 {a s b : Int} : ub W a s b 5 = ud (W 5) (W 0 2) b := by unfold ub; rw [uw_row (by omega), uw_ud, uw_row (by omega), uw_row (by omega)]
theorem cBd_brd (hr0 : r = 3 ∨ r = 19) (hw : wfB W X NB NL) (h : cBd W X NB NL r I J) {a s b : Int} {w : List Int} (h7 : I (r + 7) (W 0 2).toNat = iN a) (h8 : I (r + 8) (W 0 2).toNat = iN s) (h9 : I (r + 9) (W 0 2).toNat = iN b) (h2 : J (r + 10) (W 0 2).toNat = iL (c27 w)) : cBd (ub W a s b) X (un NB (W 0 2).toNat w) NL r (mm_up I r 4 (iN (W 0 2 + 1))) J := by
  obtain ⟨h0, ⟨a1, a2, a3, a4, a5, a6, a7, a8, a9, a10⟩, ⟨b1, b2, b3, b4, b5, b6, b7⟩, n1, n2⟩ := h
  have hb := hw.1
  have hh : ∀ {a : Nat} {n : Int} {F : Int → Int}, ¬ a = r → hr I a n F → hr (mm_up I r 4 (iN (W 0 2 + 1))) a n F := fun ha h z h1 h2 => by rw [up_a ha]; exact h z h1 h2
  refine ⟨by rw [up_a (by omega)]; exact h0, ?_, ?_, ?_, ?_⟩
  · rw [ub_0 (by omega), ub_0 (by omega), ub_0 (by omega), ub_0 (by omega), ub_2, ub_0 (by omega), ub_0 (by omega), ub_0 (by omega), ub_0 (by omega), ub_0 (by omega)]
    refine ⟨?_, ?_, ?_, ?_, ?_, ?_, ?_, ?_, ?_, ?_⟩
    all_goals (first | exact up_eq | (rw [up_k (by omega)]; assumption) | (rw [up_a (by omega)]; assumption))
  · rw [ub_2, ub_0 (j := 3) (by omega), ub_0 (j := 5) (by omega), ub_r (k := 1) (by omega) (by omega) (by omega) (by omega), ub_r (k := 2) (by omega) (by omega) (by omega) (by omega), ub_r (k := 6) (by omega) (by omega) (by omega) (by omega), ub_r (k := 7) (by omega) (by omega) (by omega) (by omega), ub_3, ub_4, ub_5]
    exact ⟨hh (by omega) b1, hh (by omega) b2, hh (by omega) (hr_e b3 (by omega) h7), hh (by omega) (hr_e b4 (by omega) h8), hh (by omega) (hr_e b5 (by omega) h9), hh (by omega) b6, hh (by omega) b7⟩
  · rw [ub_2]
    intro k hk
    unfold un
    by_cases hk2 : k = (W 0 2).toNat
    · rw [if_pos hk2, hk2]; exact h2
    · rw [if_neg hk2]; exact n1 k (by omega)
  · rw [ub_0 (by omega)]; exact n2
theorem rBd_brd (hw : wfB W X NB NL) (h : rBd W X NB NL I J) {a s b : Int} {w : List Int} (h7 : I 74 (W 0 2).toNat = iN a) (h8 : I 75 (W 0 2).toNat = iN s) (h9 : I 76 (W 0 2).toNat = iN b) (h2 : J 64 (W 0 2).toNat = iL (c256 w)) : rBd (ub W a s b) X (un NB (W 0 2).toNat w) NL (mm_up I 62 42 (iN (W 0 2 + 1))) J := by
  obtain ⟨⟨a1, a2, a3, a4, a5, a6, a7, a8, a9⟩, ⟨c1, c2, c3⟩, ⟨b1, b2, b3, b4, b5, b6⟩, d, n1, n2⟩ := h
  have hb := hw.1
  have hh : ∀ {a : Nat} {n : Int} {F : Int → Int}, ¬ a = 62 → hr I a n F → hr (mm_up I 62 42 (iN (W 0 2 + 1))) a n F := fun ha h z h1 h2 => by rw [up_a ha]; exact h z h1 h2
  refine ⟨?_, ⟨by rw [up_k (by omega)]; exact c1, by rw [up_k (by omega)]; exact c2, by rw [up_k (by omega)]; exact c3⟩, ?_, ?_, ?_, ?_⟩
  · rw [ub_0 (by omega), ub_0 (by omega), ub_0 (by omega), ub_0 (by omega), ub_2, ub_0 (by omega), ub_0 (by omega), ub_0 (by omega), ub_0 (by omega)]
    refine ⟨?_, ?_, ?_, ?_, ?_, ?_, ?_, ?_, ?_⟩
    all_goals (first | exact up_eq | (rw [up_k (by omega)]; assumption))
  · rw [ub_2, ub_0 (j := 3) (by omega), ub_r (k := 1) (by omega) (by omega) (by omega) (by omega), ub_r (k := 2) (by omega) (by omega) (by omega) (by omega), ub_r (k := 6) (by omega) (by omega) (by omega) (by omega), ub_3, ub_4, ub_5]
    exact ⟨hh (by omega) b1, hh (by omega) b2, hh (by omega) (hr_e b3 (by omega) h7), hh (by omega) (hr_e b4 (by omega) h8), hh (by omega) (hr_e b5 (by omega) h9), hh (by omega) b6⟩
  · rw [ub_0 (by omega), ub_r (k := 7) (by omega) (by omega) (by omega) (by omega)]
    exact fun z => ⟨by rw [up_k (by omega)]; exact (d z).1, hh (by omega) (d z).2.1, hh (by omega) (d z).2.2⟩
  · rw [ub_2]
    intro k hk
    unfold un
    by_cases hk2 : k = (W 0 2).toNat
    · rw [if_pos hk2, hk2]; exact h2
    · rw [if_neg hk2]; exact n1 k (by omega)
  · rw [ub_0 (by omega)]; exact n2
theorem wfB_brd (h : wfB W X NB NL) (hX : ¬ X = iN 0) {a s b : Int} {w : List Int} (ha : 0 ≤ a ∧ a ≤ 99) (hs : 0 ≤ s ∧ s < W 0 0) (hb : 0 ≤ b ∧ b ≤ 99) (hm : W 0 2 < 4) (hwd : wrd w) : wfB (ub W a s b) X (un NB (W 0 2).toNat w) NL := by
  obtain ⟨h1, h2, h3, h4, h5, h6, h7, h8, h9, h10⟩ := h
  have ef7 : ∀ j : Int, W 7 j = (ub W a s b) 7 j := fun j => by rw [ub_r (k := 7) (by omega) (by omega) (by omega) (by omega)]
  have f7 := fdep_c (V := W) (V' := ub W a s b) (z := (W 0 5).toNat) (fun j _ => ef7 j)
  have e0 : ub W a s b 0 0 = W 0 0 := ub_0 (by omega)
  have e5 : ub W a s b 0 5 = W 0 5 := ub_0 (by omega)
  have e6 : ub W a s b 0 6 = W 0 6 := ub_0 (by omega)
  have e3 : ub W a s b 0 3 = W 0 3 := ub_0 (by omega)
  refine ⟨?_, ?_, ?_, ?_, ?_, ?_, ?_, fun e => absurd e hX, ?_, ?_⟩
  · rw [e0, e5, e6, e3, ub_2, ub_0 (j := 1) (by omega), ub_0 (j := 4) (by omega), ub_0 (j := 7) (by omega), ub_0 (j := 8) (by omega), ub_0 (j := 9) (by omega)]; omega
  · rw [ub_r (k := 1) (by omega) (by omega) (by omega) (by omega)]; exact h2
  · rw [ub_r (k := 2) (by omega) (by omega) (by omega) (by omega)]; exact h3
  · rw [e0, ub_2, ub_3, ub_4, ub_5]
    intro q q1 q2
    unfold ud
    by_cases eq : q = W 0 2
    · rw [if_pos eq, if_pos eq, if_pos eq]; omega
    · rw [if_neg eq, if_neg eq, if_neg eq]; exact h4 q q1 (by omega)
  · rw [e3, ub_r (k := 6) (by omega) (by omega) (by omega) (by omega)]; exact h5
  · rw [e5]; exact fun q hq => okz_c ef7 (h6 q hq)
  · rw [e5, e6, ← f7]; exact h7
  · rw [ub_2]
    intro k hk
    unfold un
    by_cases hk2 : k = (W 0 2).toNat
    · rw [if_pos hk2]; exact hwd
    · rw [if_neg hk2]; exact h9 k (by omega)
  · rw [e3]; exact h10
/-- the reference's line behind the name -/
def RBd (n : Nat) (M : (Nat → Nat → Int32)) (L : mJ) : Option ((Nat → Nat → Int32) × mJ) := (fX12_told n 2003395685 0 99 M L).bind fun o404 => (if (M 62 42) < 0 ∨ 4 ≤ (M 62 42).toNatClampNeg then none else (fX12_told n 24948 0 ((o404.2.1 62 38) - 1) (mm_up o404.2.1 74 (M 62 42).toNatClampNeg o404.1) o404.2.2).bind fun o406 => (if (M 62 42) < 0 ∨ 4 ≤ (M 62 42).toNatClampNeg then none else (if (o406.2.1 62 2) = 0 then (if (fX12_isWord 422607680115 (mm_up o406.2.1 75 (M 62 42).toNatClampNeg o406.1) o406.2.2) = 0 then (fX12_readBoard_J85 (M 62 42) (mm_up o406.2.1 75 (M 62 42).toNatClampNeg o406.1) o406.2.2) else (fX12_told n 422607680115 0 99 (mm_up o406.2.1 75 (M 62 42).toNatClampNeg o406.1) o406.2.2).bind fun o412 => (fX12_readBoard_J87 o412.1 (M 62 42) o412.2.1 o412.2.2)) else (fX12_readBoard_J85 (M 62 42) (mm_up o406.2.1 75 (M 62 42).toNatClampNeg o406.1) o406.2.2))))
set_option maxHeartbeats 4000000 in
theorem LN_board (hr0 : r = 3 ∨ r = 19) (hw : wfB W X NB NL) (hX : ¬ X = iN 0) (hm : W 0 2 < 4) (hT : TT B m p I J I' J') (hc : cBd W X NB NL r I J) (hR : rBd W X NB NL I' J') (f1 : I 16 11 = iN 0) (f2 : I 16 12 = iN (-1)) (f3 : I' 62 3 = iN (-1)) {n : Nat} (hn : 1700 ≤ n) :
    LN B m r p I J I' J' (fX4_readBoard n I J r) ((if (fX12_isName I' J') = 0 then (fX12_newName_J16 n 0 (iN (W 0 2)) (fX12_wrong 2 I') J') else (fX12_newName_J16 n 0 (iN (W 0 2)) I' J')).bind fun o403 => (RBd n o403.1 o403.2).bind fun o442 => fX12_readLine_J235 n o442.1 o442.2) := by
  have hb := hw.1
  have e42 : I' 62 42 = iN (W 0 2) := hR.1.2.2.2.2.1
  have eg : ¬ (iN (W 0 2) < (0 : Int32) ∨ 4 ≤ (iN (W 0 2)).toNatClampNeg) := by
    show ¬ (iN _ < iN 0 ∨ _)
    rw [iN_lt (by omega) (by omega) (by omega) (by omega), iN_tn (by omega) (by omega)]; omega
  have tn : (iN (W 0 2)).toNatClampNeg = (W 0 2).toNat := iN_tn (by omega) (by omega)
  have eg2 : ¬ (iN (W 0 2) < (0 : Int32) ∨ 4 ≤ (W 0 2).toNat) := by rw [← tn]; exact eg
  have J87F : ∀ (x : Int32) (M : (Nat → Nat → Int32)) (L : mJ), hasF M → fX12_readBoard_J87 x (iN (W 0 2)) M L = some (mm_up M 76 (W 0 2).toNat x, L) := by
    intro x M L hf
    rw [fX12_readBoard_J87, ite_n eg, ite_n (hasF_no hf).1, tn]
  rw [fX4_readBoard]
  rcases bt_name_b hT hw hm hc hR hn with ⟨I1, I1', b1, b2, b3, b4, b5⟩ | ⟨hwd, k1, b0, I1, J1, I1', J1', b1, b2, b3, b4, b5, b6, b7, b8⟩
  · have b1 : fX4_isNewName n 1 I J r = some (iN 0, I1) := b1
    have hf := FF_has b3
    have e42' : I1' 62 42 = iN (W 0 2) := by rw [b5 _ _ (by omega)]; exact e42
    have hall : RBd n I1' J' = some (mm_up (mm_up (mm_up I1' 74 (W 0 2).toNat 0) 75 (W 0 2).toNat 0) 76 (W 0 2).toNat 20, J') := by
      rw [RBd, told_F hf, Option.bind_some]
      simp only [e42']
      have hf2 := hasF_up hf (I' := mm_up I1' 74 (W 0 2).toNat 0) (by rw [up_a (by omega)])
      have hf3 := hasF_up hf2 (I' := mm_up (mm_up I1' 74 (W 0 2).toNat 0) 75 (W 0 2).toNat 0) (by rw [up_a (by omega)])
      rw [ite_n eg, tn, told_F hf2, Option.bind_some, ite_n eg2]
      dsimp only
      rw [ite_n (hasF_no hf2).1, fX12_readBoard_J85, J87F _ _ _ hf3]
    rw [b1, b2, Option.bind_some, Option.bind_some]
    dsimp only
    rw [ite_p (show iN 0 = (0 : Int32) from rfl), hall, Option.bind_some]
    exact LN_F (FF_up b3 (by rw [up_a (by omega), up_a (by omega), up_a (by omega)]) (by rw [up_a (by omega), up_a (by omega), up_a (by omega)])) (lC_f b4) lCJ_refl (lR_trans (lR_f b5) (lR_trans (lR_row (by omega)) (lR_trans (lR_row (by omega)) (lR_row (by omega))))) lRJ_refl
  · have b0 : fX4_isNewName n 1 I J r = some (iN 1, I) := b0
    have eJ : J 16 8 = iL (c27 (tW B m p)) := hT.1.2.2.2.2.2.2.2.2 k1
    have hc1 := cBd_k hr0 hc b5 b6
    have hR0 : rBd W X NB NL I' (mm_up J' 64 (0 + (W 0 2).toNat) (iL (c256 (tW B m p)))) := rBd_bey hw hR (fun _ _ _ _ => rfl) (fun k h1 h2 => up_k (by omega))
    have hR1 := rBd_r hR0 b7 b8
    have j1 : J1' 64 (W 0 2).toNat = iL (c256 (tW B m p)) := by rw [b8 _ _ (by omega), Nat.zero_add, up_eq]
    have frJ : lRJ J' J1' := fun a k h1 h2 => by rw [b8 a k h1, up_a h2]
    have e42' : I1' 62 42 = iN (W 0 2) := by rw [b7 _ _ (by omega)]; exact e42
    rw [b0, b2, Option.bind_some, Option.bind_some]
    dsimp only
    rw [ite_n (show ¬ iN 1 = (0 : Int32) from n10), b1, Option.bind_some]
    dsimp only
    rw [RBd]
    simp only [e42']
    rw [fX12_told]
    /- behind a fault in 'wide' -/
    have tl2 : ∀ (x : Int32) (M : (Nat → Nat → Int32)) (L : mJ), hasF M → ((some (x, M, L) : Option (Int32 × (Nat → Nat → Int32) × mJ)).bind fun o404 => (if (iN (W 0 2)) < 0 ∨ 4 ≤ (iN (W 0 2)).toNatClampNeg then none else (fX12_told n 24948 0 ((o404.2.1 62 38) - 1) (mm_up o404.2.1 74 (iN (W 0 2)).toNatClampNeg o404.1) o404.2.2).bind fun o406 => (if (iN (W 0 2)) < 0 ∨ 4 ≤ (iN (W 0 2)).toNatClampNeg then none else (if (o406.2.1 62 2) = 0 then (if (fX12_isWord 422607680115 (mm_up o406.2.1 75 (iN (W 0 2)).toNatClampNeg o406.1) o406.2.2) = 0 then (fX12_readBoard_J85 (iN (W 0 2)) (mm_up o406.2.1 75 (iN (W 0 2)).toNatClampNeg o406.1) o406.2.2) else (fX12_told n 422607680115 0 99 (mm_up o406.2.1 75 (iN (W 0 2)).toNatClampNeg o406.1) o406.2.2).bind fun o412 => (fX12_readBoard_J87 o412.1 (iN (W 0 2)) o412.2.1 o412.2.2)) else (fX12_readBoard_J85 (iN (W 0 2)) (mm_up o406.2.1 75 (iN (W 0 2)).toNatClampNeg o406.1) o406.2.2))))) = some (mm_up (mm_up (mm_up M 74 (W 0 2).toNat x) 75 (W 0 2).toNat 0) 76 (W 0 2).toNat 20, L) := by
      intro x M L hf
      rw [Option.bind_some]
      dsimp only
      have hf2 := hasF_up hf (I' := mm_up M 74 (W 0 2).toNat x) (by rw [up_a (by omega)])
      have hf3 := hasF_up hf2 (I' := mm_up (mm_up M 74 (W 0 2).toNat x) 75 (W 0 2).toNat 0) (by rw [up_a (by omega)])
      rw [ite_n eg, tn, told_F hf2, Option.bind_some, ite_n eg2]
      dsimp only
      rw [ite_n (hasF_no hf2).1, fX12_readBoard_J85, J87F _ _ _ hf3]
    rcases bt_word b3 (k := 10) (by omega) (x := 2003395685) (by decide) hn with ⟨I2, I2', c1, c2, c3, c4, c5⟩ | ⟨I2, J2, I2', J2', c1, c2, c3, c4, c5, c6, c7, c8⟩
    · have c1 : fX4_passWord n 10 I1 J1 = some (iN 0, I2, J1) := c1
      rw [c1, c2, Option.bind_some, Option.bind_some, num_F (FF_has c3), Option.bind_some, tl2 _ _ _ (FF_has c3), Option.bind_some]
      dsimp only
      rw [ite_p (show iN 0 = (0 : Int32) from rfl), fX4_readBoard_J39, ite_p rfl, fX4_readBoard_J54]
      exact LN_F (FF_up c3 (by rw [up_a (by omega), up_a (by omega), up_a (by omega)]) (by rw [up_a (by omega), up_a (by omega), up_a (by omega)])) (lC_trans (lC_k b5) (lC_f c4)) (lCJ_k b6) (lR_trans (lR_r b7) (lR_trans (lR_f c5) (lR_trans (lR_row (by omega)) (lR_trans (lR_row (by omega)) (lR_row (by omega)))))) frJ
    · have c1 : fX4_passWord n 10 I1 J1 = some (iN 1, I2, J2) := c1
      rw [c1, c2, Option.bind_some, Option.bind_some]
      dsimp only
      rw [ite_n (show ¬ iN 1 = (0 : Int32) from n10)]
      rcases bt_num c3 (lo := 0) (hi := 99) (by omega) (by omega) hn with ⟨I3, x, I3', d1, d2, d3, d4, d5⟩ | ⟨a, I3, J3, I3', J3', ha, d1, d2, d3, d4, d5, d6, d7, d8⟩
      · have d1 : fX4_passNumber n 0 99 I2 J2 = some (iN (-1), I3, J2) := d1
        have d2 : fX12_toldNumber n 0 99 I2' J2' = some (x, I3', J2') := d2
        rw [d1, d2, Option.bind_some, Option.bind_some, tl2 _ _ _ (FF_has d3), Option.bind_some]
        dsimp only
        rw [fX4_readBoard_J39, ite_p (show iN (-1) = (-1 : Int32) from rfl), fX4_readBoard_J54]
        exact LN_F (FF_up d3 (by rw [up_a (by omega), up_a (by omega), up_a (by omega)]) (by rw [up_a (by omega), up_a (by omega), up_a (by omega)])) (lC_trans (lC_k b5) (lC_trans (lC_k c5) (lC_f d4))) (lCJ_trans (lCJ_k b6) (lCJ_k c6)) (lR_trans (lR_r b7) (lR_trans (lR_r c7) (lR_trans (lR_f d5) (lR_trans (lR_row (by omega)) (lR_trans (lR_row (by omega)) (lR_row (by omega))))))) (lRJ_trans frJ (lRJ_r c8))
      · have d1 : fX4_passNumber n 0 99 I2 J2 = some (iN a, I3, J3) := d1
        have d2 : fX12_toldNumber n 0 99 I2' J2' = some (iN a, I3', J3') := d2
        have hc3 := cBd_k hr0 (cBd_k hr0 hc1 c5 c6) d5 d6
        have hR3 := rBd_r (rBd_r hR1 c7 c8) d7 d8
        have hlR3 : lR I' I3' := lR_trans (lR_r b7) (lR_trans (lR_r c7) (lR_r d7))
        have hlRJ3 : lRJ J' J3' := lRJ_trans frJ (lRJ_trans (lRJ_r c8) (lRJ_r d8))
        have hlC3 : lC r I I3 := lC_trans (lC_k b5) (lC_trans (lC_k c5) (lC_k d5))
        have hlCJ3 : lCJ r J J3 := lCJ_trans (lCJ_k b6) (lCJ_trans (lCJ_k c6) (lCJ_k d6))
        have hp3 : p < tN B m (tN B m (tN B m p)) := by omega
        have g11 : I3 16 11 = iN 0 := by rw [d5 _ _ (by omega), c5 _ _ (by omega), b5 _ _ (by omega)]; exact f1
        have g12 : I3 16 12 = iN (-1) := by rw [d5 _ _ (by omega), c5 _ _ (by omega), b5 _ _ (by omega)]; exact f2
        have g3 : I3' 62 3 = iN (-1) := by rw [d7 _ _ (by omega), c7 _ _ (by omega), b7 _ _ (by omega)]; exact f3
        have j3 : J3' 64 (W 0 2).toNat = iL (c256 (tW B m p)) := by rw [d8 _ _ (by omega), c8 _ _ (by omega)]; exact j1
        rw [d1, d2, Option.bind_some, Option.bind_some, Option.bind_some]
        dsimp only
        rw [fX4_readBoard_J39, ite_n (show ¬ iN a = (-1 : Int32) by show ¬ iN a = iN (-1); rw [iN_eq (by omega) (by omega) (by omega) (by omega)]; omega), ite_n eg, tn]
        have e38 : I3' 62 38 = iN (W 0 0) := hR3.1.1
        have s0 : ∀ z : Int, (iN z - 1 : Int32) = iN (z - 1) := fun z => iN_sub z 1
        rw [e38, s0, fX12_told]
        /- everything of the road up to here is forgotten -/
        have hR4 : rBd W X NB NL (mm_up I3' 74 (W 0 2).toNat (iN a)) J3' := rBd_bey hw hR3 (fun b k h1 h2 => up_o (by omega)) (fun _ _ _ => rfl)
        have hT4 : TT B m (tN B m (tN B m (tN B m p))) I3 J3 (mm_up I3' 74 (W 0 2).toNat (iN a)) J3' := TT_up (r := r) d3 hr0 (fun _ _ _ _ => rfl) (fun b k h1 h2 => up_o (by omega))
        have q74 : (mm_up I3' 74 (W 0 2).toNat (iN a)) 74 (W 0 2).toNat = iN a := up_eq
        have g3' : (mm_up I3' 74 (W 0 2).toNat (iN a)) 62 3 = iN (-1) := by rw [up_a (by omega)]; exact g3
        have hlR4 : lR I' (mm_up I3' 74 (W 0 2).toNat (iN a)) := lR_trans hlR3 (lR_row (by omega))
        generalize mm_up I3' 74 (W 0 2).toNat (iN a) = M4 at hR4 hT4 q74 g3' hlR4 ⊢
        generalize tN B m (tN B m (tN B m p)) = p3 at hT4 hp3
        /- behind a fault in 'at' -/
        have tl3 : ∀ (x : Int32) (M : (Nat → Nat → Int32)) (L : mJ), hasF M → ((some (x, M, L) : Option (Int32 × (Nat → Nat → Int32) × mJ)).bind fun o406 => (if (iN (W 0 2)) < 0 ∨ 4 ≤ (W 0 2).toNat then none else (if (o406.2.1 62 2) = 0 then (if (fX12_isWord 422607680115 (mm_up o406.2.1 75 (W 0 2).toNat o406.1) o406.2.2) = 0 then (fX12_readBoard_J85 (iN (W 0 2)) (mm_up o406.2.1 75 (W 0 2).toNat o406.1) o406.2.2) else (fX12_told n 422607680115 0 99 (mm_up o406.2.1 75 (W 0 2).toNat o406.1) o406.2.2).bind fun o412 => (fX12_readBoard_J87 o412.1 (iN (W 0 2)) o412.2.1 o412.2.2)) else (fX12_readBoard_J85 (iN (W 0 2)) (mm_up o406.2.1 75 (W 0 2).toNat o406.1) o406.2.2)))) = some (mm_up (mm_up M 75 (W 0 2).toNat x) 76 (W 0 2).toNat 20, L) := by
          intro x M L hf
          rw [Option.bind_some]
          dsimp only
          have hf3 := hasF_up hf (I' := mm_up M 75 (W 0 2).toNat x) (by rw [up_a (by omega)])
          rw [ite_n eg2, ite_n (hasF_no hf).1, fX12_readBoard_J85, J87F _ _ _ hf3]
        have e0 : I3 r 0 = iN (W 0 0) := hc3.2.1.1
        rcases bt_word hT4 (k := 9) (by omega) (x := 24948) (by decide) hn with ⟨I2, I2', c1, c2, c3, c4, c5⟩ | ⟨I2, J2, I2', J2', c1, c2, c3, c4, c5, c6, c7, c8⟩
        · have c1 : fX4_passWord n 9 I3 J3 = some (iN 0, I2, J3) := c1
          rw [c1, c2, Option.bind_some, Option.bind_some, num_F (FF_has c3), Option.bind_some]
          dsimp only
          rw [tl3 _ _ _ (FF_has c3), ite_p (show iN 0 = (0 : Int32) from rfl), Option.bind_some, fX4_readBoard_J54]
          exact LN_F (FF_up c3 (by rw [up_a (by omega), up_a (by omega)]) (by rw [up_a (by omega), up_a (by omega)])) (lC_trans hlC3 (lC_f c4)) hlCJ3 (lR_trans hlR4 (lR_trans (lR_f c5) (lR_trans (lR_row (by omega)) (lR_row (by omega))))) hlRJ3
        · have c1 : fX4_passWord n 9 I3 J3 = some (iN 1, I2, J2) := c1
          have e0' : I2 r 0 = iN (W 0 0) := by rw [c5 _ _ (by omega)]; exact e0
          rw [c1, c2, Option.bind_some, Option.bind_some]
          dsimp only
          rw [ite_n (show ¬ iN 1 = (0 : Int32) from n10), e0', s0]
          rcases bt_num c3 (lo := 0) (hi := W 0 0 - 1) (by omega) (by omega) hn with ⟨I4, x, I4', d1, d2, d3, d4, d5⟩ | ⟨s, I4, J4, I4', J4', hs, d1, d2, d3, d4, d5, d6, d7, d8⟩
          · have d1 : fX4_passNumber n 0 (iN (W 0 0 - 1)) I2 J2 = some (iN (-1), I4, J2) := d1
            have d2 : fX12_toldNumber n 0 (iN (W 0 0 - 1)) I2' J2' = some (x, I4', J2') := d2
            rw [d1, d2, Option.bind_some, Option.bind_some]
            dsimp only
            rw [tl3 _ _ _ (FF_has d3), Option.bind_some, ite_p (show iN (-1) = (-1 : Int32) from rfl), fX4_readBoard_J104, ite_p (show iN (-1) = (-1 : Int32) from rfl), fX4_readBoard_J116]
            exact LN_F (FF_up d3 (by rw [up_a (by omega), up_a (by omega)]) (by rw [up_a (by omega), up_a (by omega)])) (lC_trans hlC3 (lC_trans (lC_k c5) (lC_f d4))) (lCJ_trans hlCJ3 (lCJ_k c6)) (lR_trans hlR4 (lR_trans (lR_r c7) (lR_trans (lR_f d5) (lR_trans (lR_row (by omega)) (lR_row (by omega)))))) (lRJ_trans hlRJ3 (lRJ_r c8))
          · have d1 : fX4_passNumber n 0 (iN (W 0 0 - 1)) I2 J2 = some (iN s, I4, J4) := d1
            have d2 : fX12_toldNumber n 0 (iN (W 0 0 - 1)) I2' J2' = some (iN s, I4', J4') := d2
            rw [d1, d2, Option.bind_some, Option.bind_some, Option.bind_some]
            dsimp only
            have ns : ¬ iN s = (-1 : Int32) := by show ¬ iN s = iN (-1); rw [iN_eq (by omega) (by omega) (by omega) (by omega)]; omega
            rw [ite_n ns, ite_n eg2, ite_p (show I4' 62 2 = (0 : Int32) from d3.2.2)]
            have hc5 := cBd_k hr0 (cBd_k hr0 hc3 c5 c6) d5 d6
            have hR5a := rBd_r (rBd_r hR4 c7 c8) d7 d8
            have hR5 : rBd W X NB NL (mm_up I4' 75 (W 0 2).toNat (iN s)) J4' := rBd_bey hw hR5a (fun b k h1 h2 => up_o (by omega)) (fun _ _ _ => rfl)
            have hT5 : TT B m (tN B m (tN B m p3)) I4 J4 (mm_up I4' 75 (W 0 2).toNat (iN s)) J4' := TT_up (r := r) d3 hr0 (fun _ _ _ _ => rfl) (fun b k h1 h2 => up_o (by omega))
            have q74' : (mm_up I4' 75 (W 0 2).toNat (iN s)) 74 (W 0 2).toNat = iN a := by rw [up_a (by omega), d7 _ _ (by omega), c7 _ _ (by omega)]; exact q74
            have q75 : (mm_up I4' 75 (W 0 2).toNat (iN s)) 75 (W 0 2).toNat = iN s := up_eq
            have g35 : (mm_up I4' 75 (W 0 2).toNat (iN s)) 62 3 = iN (-1) := by rw [up_a (by omega), d7 _ _ (by omega), c7 _ _ (by omega)]; exact g3'
            have g511 : I4 16 11 = iN 0 := by rw [d5 _ _ (by omega), c5 _ _ (by omega)]; exact g11
            have g512 : I4 16 12 = iN (-1) := by rw [d5 _ _ (by omega), c5 _ _ (by omega)]; exact g12
            have j5 : J4' 64 (W 0 2).toNat = iL (c256 (tW B m p)) := by rw [d8 _ _ (by omega), c8 _ _ (by omega)]; exact j3
            have hlC5 : lC r I I4 := lC_trans hlC3 (lC_trans (lC_k c5) (lC_k d5))
            have hlCJ5 : lCJ r J J4 := lCJ_trans hlCJ3 (lCJ_trans (lCJ_k c6) (lCJ_k d6))
            have hlR5 : lR I' (mm_up I4' 75 (W 0 2).toNat (iN s)) := lR_trans hlR4 (lR_trans (lR_r c7) (lR_trans (lR_r d7) (lR_row (by omega))))
            have hlRJ5 : lRJ J' J4' := lRJ_trans hlRJ3 (lRJ_trans (lRJ_r c8) (lRJ_r d8))
            have hp5 : p < tN B m (tN B m p3) := by omega
            generalize mm_up I4' 75 (W 0 2).toNat (iN s) = M5 at hR5 hT5 q74' q75 g35 hlR5 ⊢
            generalize tN B m (tN B m p3) = p5 at hT5 hp5
            /- the end: all is there -/
            have fin : ∀ (q : Nat) (b : Int) (I6 : (Nat → Nat → Int32)) (J6 : mJ) (M6 : (Nat → Nat → Int32)) (J6' : mJ), 0 ≤ b ∧ b ≤ 99 → p5 ≤ q → TT B m q I6 J6 M6 J6' → xk I4 I6 → xJ J4 J6 → xr M5 M6 → xJr J4' J6' → LN B m r p I J I' J' (fX4_readBoard_J104 n (J 16 8) (iN a) (iN s) (iN b) I6 J6 r) ((fX12_readBoard_J87 (iN b) (iN (W 0 2)) M6 J6').bind fun o442 => fX12_readLine_J235 n o442.1 o442.2) := by
              intro q b I6 J6 M6 J6' hbb hq hT6 x1 x2 x3 x4
              have nb : ¬ iN b = (-1 : Int32) := by show ¬ iN b = iN (-1); rw [iN_eq (by omega) (by omega) (by omega) (by omega)]; omega
              have hc6 := cBd_k hr0 hc5 x1 x2
              have hR6 := rBd_r hR5 x3 x4
              have e4 : I6 r 4 = iN (W 0 2) := hc6.2.1.2.2.2.2.1
              have e42 : M6 62 42 = iN (W 0 2) := hR6.1.2.2.2.2.1
              have i1 : (iN (W 0 2) + 1 : Int32) = iN (W 0 2 + 1) := iN_add _ 1
              rw [fX4_readBoard_J104, ite_n ns, ite_n nb, fX12_readBoard_J87, ite_n eg, ite_p (show M6 62 2 = (0 : Int32) from hT6.2.2), tn, e42, i1, Option.bind_some]
              dsimp only
              have hadd : fX5_addBoard (J 16 8) (iN a) (iN s) (iN b) r I6 J6 = some (mm_up (mm_up (mm_up (mm_up I6 (r + 7) (W 0 2).toNat (iN a)) (r + 8) (W 0 2).toNat (iN s)) (r + 9) (W 0 2).toNat (iN b)) r 4 (iN (W 0 2 + 1)), mm_up J6 (r + 10) (W 0 2).toNat (iL (c27 (tW B m p)))) := by
                have u4 : ∀ (M : (Nat → Nat → Int32)) (k : Nat) (x : Int32) (y : Nat), ¬ k = r → mm_up M k y x r 4 = M r 4 := fun M k x y hk => by rw [up_a (by omega)]
                rw [fX5_addBoard, e4, ite_p (show iN (W 0 2) < (4 : Int32) by show iN _ < iN 4; rw [iN_lt (by omega) (by omega) (by omega) (by omega)]; omega), ite_n eg, iN_put (by omega) (by omega) (by omega), u4 _ _ _ _ (by omega), e4, iN_put (by omega) (by omega) (by omega), u4 _ _ _ _ (by omega), u4 _ _ _ _ (by omega), e4, iN_put (by omega) (by omega) (by omega), u4 _ _ _ _ (by omega), u4 _ _ _ _ (by omega), u4 _ _ _ _ (by omega), e4, i1, tn, eJ]
              rw [hadd, Option.bind_some]
              dsimp only
              have hc7 : cBd W X NB NL r (mm_up (mm_up (mm_up I6 (r + 7) (W 0 2).toNat (iN a)) (r + 8) (W 0 2).toNat (iN s)) (r + 9) (W 0 2).toNat (iN b)) (mm_up J6 (r + 10) (W 0 2).toNat (iL (c27 (tW B m p)))) := cBd_bey hr0 hw hc6 (fun c k h1 h2 => by rw [up_o (by omega), up_o (by omega), up_o (by omega)]) (fun c k h1 h2 => by
                show (if c = r + 10 ∧ k = (W 0 2).toNat then _ else J6 c k) = J6 c k
                rw [if_neg h1])
              have hc8 := cBd_brd hr0 hw hc7 (a := a) (s := s) (b := b) (w := tW B m p) (by rw [up_a (by omega), up_a (by omega), up_eq]) (by rw [up_a (by omega), up_eq]) up_eq up_eq
              have hR7 : rBd W X NB NL (mm_up M6 76 (W 0 2).toNat (iN b)) J6' := rBd_bey hw hR6 (fun c k h1 h2 => up_o (by omega)) (fun _ _ _ => rfl)
              have hR8 := rBd_brd hw hR7 (a := a) (s := s) (b := b) (w := tW B m p) (by rw [up_a (by omega), x3 _ _ (by omega)]; exact q74') (by rw [up_a (by omega), x3 _ _ (by omega)]; exact q75) up_eq (by rw [x4 _ _ (by omega)]; exact j5)
              have hT7 : TT B m q (mm_up (mm_up (mm_up (mm_up I6 (r + 7) (W 0 2).toNat (iN a)) (r + 8) (W 0 2).toNat (iN s)) (r + 9) (W 0 2).toNat (iN b)) r 4 (iN (W 0 2 + 1))) (mm_up J6 (r + 10) (W 0 2).toNat (iL (c27 (tW B m p)))) (mm_up (mm_up M6 76 (W 0 2).toNat (iN b)) 62 42 (iN (W 0 2 + 1))) J6' := by
                refine ⟨cT_of hr0 hT6.1 (fun c k h1 _ => by rw [up_o (by omega), up_o (by omega), up_o (by omega), up_o (by omega)]) (fun c k h1 => ?_), rT_of hT6.2.1 (fun k hk => by rw [up_k (by omega), up_a (by omega)]) (fun j => by rw [up_a (by omega), up_a (by omega)]) rfl, by rw [up_k (by omega), up_a (by omega)]; exact hT6.2.2⟩
                show (if c = r + 10 ∧ k = (W 0 2).toNat then _ else J6 c k) = J6 c k
                rw [if_neg (by omega)]
              have := LN_end hr0 (wfB_brd hw hX (a := a) (s := s) (b := b) (w := tW B m p) ha (by omega) hbb hm hwd) hX hT7 hc8 hR8 (by rw [up_a (by omega), up_a (by omega), up_a (by omega), up_a (by omega), x1 _ _ (by omega)]; exact g511) (by rw [up_a (by omega), up_a (by omega), up_a (by omega), up_a (by omega), x1 _ _ (by omega)]; exact g512) (by rw [up_k (by omega), up_a (by omega), x3 _ _ (by omega)]; exact g35) hn
              refine LN_w (LN_x this (by omega) (lC_trans hlC5 (lC_trans (lC_k x1) (fun c k _ h2 => by rw [up_o (by omega), up_o (by omega), up_o (by omega), up_o (by omega)]))) (lCJ_trans hlCJ5 (lCJ_trans (lCJ_k x2) (fun c k _ h2 => ?_))) (lR_trans hlR5 (lR_trans (lR_r x3) (lR_trans (lR_row (by omega)) (lR_up (by omega))))) (lRJ_trans hlRJ5 (lRJ_r x4)))
              show (if c = r + 10 ∧ k = (W 0 2).toNat then _ else J6 c k) = J6 c k
              rw [if_neg (by omega)]
            have cw1 := cl_isw hT5.1 (k := 11) (by omega)
            have cw1 : fX4_isWord 11 I4 = if tO B m p5 = 11 then iN 1 else iN 0 := cw1
            have rw1 := rf_isw hT5.2.1 (k := 11) (by omega) (x := 422607680115) (by decide)
            rw [cw1, rw1]
            by_cases e11 : tO B m p5 = 11
            · have hK := ((tO_word (by omega)).mp e11).1
              have e11' : tO B m p5 = ((11 : Nat) : Int) := e11
              rw [if_pos e11, if_pos e11', ite_n (show ¬ iN 1 = (0 : Int32) from n10), ite_n (show ¬ iN 1 = (0 : Int32) from n10)]
              obtain ⟨I6, J6, M6, J6', a1, a2, a3, a4, a5, a6, a7⟩ := bt_adv hT5 (by omega) hn
              have hlt := ((tN_in (B := B) hT5.1.1).2.2 (by omega)).2.2
              have hwant : fX12_want n 422607680115 M5 J4' = some (M6, J6') := by
                rw [fX12_want, ite_n (show ¬ (0 : Int32) < M5 62 2 by rw [hT5.2.2]; decide), rw1, if_pos e11', ite_n (show ¬ iN 1 = (0 : Int32) from n10), a2, Option.bind_some]
              rw [a1, Option.bind_some, fX12_told, hwant, Option.bind_some]
              dsimp only
              rcases bt_num a3 (lo := 0) (hi := 99) (by omega) (by omega) hn with ⟨I7, x, I7', d1, d2, d3, d4, d5⟩ | ⟨b, I7, J7, I7', J7', hbb, d1, d2, d3, d4, d5, d6, d7, d8⟩
              · have d1 : fX4_passNumber n 0 99 I6 J6 = some (iN (-1), I7, J6) := d1
                have d2 : fX12_toldNumber n 0 99 M6 J6' = some (x, I7', J6') := d2
                rw [d1, d2, Option.bind_some, Option.bind_some, Option.bind_some]
                dsimp only
                rw [J87F _ _ _ (FF_has d3), Option.bind_some, fX4_readBoard_J104, ite_n ns, ite_p (show iN (-1) = (-1 : Int32) from rfl), fX4_readBoard_J116]
                exact LN_F (FF_up d3 (by rw [up_a (by omega)]) (by rw [up_a (by omega)])) (lC_trans hlC5 (lC_trans (lC_k a4) (lC_f d4))) (lCJ_trans hlCJ5 (lCJ_k a5)) (lR_trans hlR5 (lR_trans (lR_r a6) (lR_trans (lR_f d5) (lR_row (by omega))))) (lRJ_trans hlRJ5 (lRJ_r a7))
              · have d1 : fX4_passNumber n 0 99 I6 J6 = some (iN b, I7, J7) := d1
                have d2 : fX12_toldNumber n 0 99 M6 J6' = some (iN b, I7', J7') := d2
                rw [d1, d2, Option.bind_some, Option.bind_some, Option.bind_some]
                dsimp only
                exact fin (tN B m (tN B m p5)) b I7 J7 I7' J7' hbb (by omega) d3 (xk_trans a4 d5) (xJ_trans a5 d6) (xr_trans a6 d7) (xJr_trans a7 d8)
            · have e11' : ¬ tO B m p5 = ((11 : Nat) : Int) := e11
              rw [if_neg e11, if_neg e11', ite_p (show iN 0 = (0 : Int32) from rfl), ite_p (show iN 0 = (0 : Int32) from rfl), fX12_readBoard_J85]
              exact fin p5 20 I4 J4 M5 J4' (by omega) (Nat.le_refl _) hT5 xk_refl xJ_refl xr_refl xJr_refl
end LNO
