def fX12_turned_L4 (n : Nat) (y1 : Int32) (y2 : Int32) (y3 : Int32) (I : Nat → Nat → Int32) : Option (Int32) := match n with
  | 0 => none
  | n + 1 => (if y3 < y1 then (if y3 < 0 ∨ 6 ≤ y3.toNatClampNeg then none else (if (I 87 y3.toNatClampNeg) = 0 then fX12_turned_L4 n y1 (y2 + (fX12_truth 0)) (y3 + 1) I else fX12_turned_L4 n y1 (y2 + (fX12_truth 1)) (y3 + 1) I)) else some y2)
def fX12_turned (n : Nat) (x1 : Int32) (I : Nat → Nat → Int32) : Option (Int32) := (fX12_turned_L4 n x1 0 0 I).bind fun o707 => some o707
set_option maxRecDepth 100000 in
set_option maxHeartbeats 4000000 in
theorem tlX12_turned_L4 (d : Nat) (Q : Option Value → mm_H → Prop) : ∀ (n : Nat) (y1 : Int32) (y2 : Int32) (y3 : Int32) (I : Nat → Nat → Int32) (J : Nat → Nat → Int64) (rv sp rr w nw : Nat), ∀ (out : Int32), fX12_turned_L4 n y1 y2 y3 I = some out → mm_T none (d + 1) 287 (35, [none, none, some (.int out), none], []) (107, I, J, mm_rf rv sp rr w nw) Q → mm_T none (d + 1) 287 (4, [some (.ref 62), some (.int y1), some (.int y2), some (.int y3)], []) (107, I, J, mm_rf rv sp rr w nw) Q := by
  intro n
  induction n with
  | zero =>
    intro y1 y2 y3 I J rv sp rr w nw out e k
    rw [fX12_turned_L4] at e; cases e
  | succ n ih =>
    intro y1 y2 y3 I J rv sp rr w nw out e k
    rw [fX12_turned_L4] at e
    refine mm_T.seg (f' := (6, [some (.ref 62), some (.int y1), some (.int y2), some (.int y3)], [(.int y1), (.int y3)])) (h' := (107, I, J, mm_rf rv sp rr w nw)) 2 rfl ?_
    refine mm_T.br (c := y3 < y1) (a := ((9, [some (.ref 62), some (.int y1), some (.int y2), some (.int y3)], []), (107, I, J, mm_rf rv sp rr w nw))) (b := ((35, [some (.ref 62), some (.int y1), some (.int y2), some (.int y3)], []), (107, I, J, mm_rf rv sp rr w nw))) rfl (fun h704 => ?_) (fun h704 => ?_)
    · rw [if_pos h704] at e
      refine mm_T.seg (f' := (15, [some (.ref 62), some (.int y1), some (.int y2), some (.int y3)], [(.int y3), (.ref 87), (.int y2)])) (h' := (107, I, J, mm_rf rv sp rr w nw)) 4 rfl ?_
      by_cases h705 : y3 < 0 ∨ 6 ≤ y3.toNatClampNeg
      · rw [if_pos h705] at e; cases e
      rw [if_neg h705] at e
      refine mm_T.guard (y := ((16, [some (.ref 62), some (.int y1), some (.int y2), some (.int y3)], [(.int (I 87 y3.toNatClampNeg)), (.int y2)]), (107, I, J, mm_rf rv sp rr w nw))) rfl h705 ?_
      refine mm_T.br (c := (I 87 y3.toNatClampNeg) = 0) (a := ((23, [some (.ref 62), some (.int y1), some (.int y2), some (.int y3)], [(.int y2)]), (107, I, J, mm_rf rv sp rr w nw))) (b := ((19, [some (.ref 62), some (.int y1), some (.int y2), some (.int y3)], [(.int y2)]), (107, I, J, mm_rf rv sp rr w nw))) rfl (fun h706 => ?_) (fun h706 => ?_)
      · rw [if_pos h706] at e
        refine mm_T.seg (f' := (24, [some (.ref 62), some (.int y1), some (.int y2), some (.int y3)], [(.int 0), (.int y2)])) (h' := (107, I, J, mm_rf rv sp rr w nw)) 1 rfl ?_
        refine mm_T.call (t := 236) (as := [(.int 0)]) (f' := (27, [some (.ref 62), some (.int y1), some (.int y2), some (.int y3)], [(.int y2)])) rfl (tX12_truth (d + 0) 0 I J rv sp rr w nw _ rfl) (fun v h hq => ?_)
        obtain ⟨rfl, rfl⟩ := hq
        refine mm_T.seg (f' := (4, [some (.ref 62), some (.int y1), some (.int (y2 + (fX12_truth 0))), some (.int (y3 + 1))], [])) (h' := (107, I, J, mm_rf rv sp rr w nw)) 4 rfl ?_
        refine mm_T.mask [true, true, true, true] ?_
        exact ih y1 (y2 + (fX12_truth 0)) (y3 + 1) I J rv sp rr w nw out e k
      · rw [if_neg h706] at e
        refine mm_T.seg (f' := (24, [some (.ref 62), some (.int y1), some (.int y2), some (.int y3)], [(.int 1), (.int y2)])) (h' := (107, I, J, mm_rf rv sp rr w nw)) 2 rfl ?_
        refine mm_T.call (t := 236) (as := [(.int 1)]) (f' := (27, [some (.ref 62), some (.int y1), some (.int y2), some (.int y3)], [(.int y2)])) rfl (tX12_truth (d + 0) 1 I J rv sp rr w nw _ rfl) (fun v h hq => ?_)
        obtain ⟨rfl, rfl⟩ := hq
        refine mm_T.seg (f' := (4, [some (.ref 62), some (.int y1), some (.int (y2 + (fX12_truth 1))), some (.int (y3 + 1))], [])) (h' := (107, I, J, mm_rf rv sp rr w nw)) 4 rfl ?_
        refine mm_T.mask [true, true, true, true] ?_
        exact ih y1 (y2 + (fX12_truth 1)) (y3 + 1) I J rv sp rr w nw out e k
    · rw [if_neg h704] at e
      cases e
      refine mm_T.mask [false, false, true, false] ?_
      exact k
set_option maxRecDepth 100000 in
set_option maxHeartbeats 4000000 in
theorem tX12_turned (d n : Nat) (x1 : Int32) (I : Nat → Nat → Int32) (J : Nat → Nat → Int64) (rv sp rr w nw : Nat) (out : Int32) (e : fX12_turned n x1 I = some out) : mm_T none (d + 1) 287 (mm_ent 287 [(.ref 62), (.int x1)]) (107, I, J, mm_rf rv sp rr w nw) (fun v h => v = some (.int out) ∧ h = (107, I, J, mm_rf rv sp rr w nw)) := by
  unfold fX12_turned at e
  refine mm_T.seg (f' := (4, [some (.ref 62), some (.int x1), some (.int 0), some (.int 0)], [])) (h' := (107, I, J, mm_rf rv sp rr w nw)) 4 rfl ?_
  refine mm_T.mask [true, true, true, true] ?_
  obtain ⟨o707, eo707, e⟩ := mm_bind e
  refine tlX12_turned_L4 d _ n x1 0 0 I J rv sp rr w nw o707 eo707 ?_
  refine mm_T.seg (f' := (36, [none, none, some (.int o707), none], [(.int o707)])) (h' := (107, I, J, mm_rf rv sp rr w nw)) 1 rfl ?_
  cases e
  exact mm_T.ret rfl ⟨rfl, rfl⟩
def fX12_straight_L36 (n : Nat) (y1 : Int32) (y2 : Int32) (y3 : Int32) (y4 : Int32) (I : Nat → Nat → Int32) : Option (Int32 × (Nat → Nat → Int32)) := match n with
  | 0 => none
  | n + 1 => (fX12_leftOf y1 I).bind fun o711 => (fX12_power n 3 o711).bind fun o712 => (if y4 < o712 then (fX12_goRow n y1 y4 I).bind fun o714 => (if o714.1 = 0 then fX12_straight_L36 n y1 y2 y3 (y4 + 1) o714.2 else (if y1 < 0 ∨ 28 ≤ y1.toNatClampNeg then none else (if (o714.2 85 y1.toNatClampNeg) = y2 then (fX12_leftOf y1 o714.2).bind fun o718 => (fX12_turned n o718 o714.2).bind fun o719 => (if o719 < y3 then (fX12_leftOf y1 o714.2).bind fun o721 => (fX12_turned n o721 o714.2).bind fun o722 => (fX12_putSteers n y1 o714.2).bind fun o723 => fX12_straight_L36 n y1 y2 o722 (y4 + 1) o723 else fX12_straight_L36 n y1 y2 y3 (y4 + 1) o714.2) else fX12_straight_L36 n y1 y2 y3 (y4 + 1) o714.2))) else some (y3, I))
def fX12_straight (n : Nat) (x1 : Int32) (x2 : Int32) (I : Nat → Nat → Int32) : Option (Int32 × (Nat → Nat → Int32)) := (fX12_isBoard x1 (mm_up I 62 61 0)).bind fun o708 => (if o708 = 0 then some ((-1), (mm_up I 62 61 0)) else (if (fX12_isIn x2 0 ((I 62 46) - 1)) = 0 then some ((-1), (mm_up I 62 61 0)) else (fX12_straight_L36 n x1 x2 1000000 0 (mm_up I 62 61 0)).bind fun o724 => (if o724.1 = 1000000 then some ((-1), o724.2) else some (o724.1, o724.2))))
set_option maxRecDepth 100000 in
set_option maxHeartbeats 4000000 in
theorem tlX12_straight_L36 (d : Nat) (Q : Option Value → mm_H → Prop) : ∀ (n : Nat) (y1 : Int32) (y2 : Int32) (y3 : Int32) (y4 : Int32) (I : Nat → Nat → Int32) (J : Nat → Nat → Int64) (rv sp rr w nw : Nat), ∀ (out : Int32 × (Nat → Nat → Int32)), fX12_straight_L36 n y1 y2 y3 y4 I = some out → mm_T none (d + 5) 288 (107, [none, none, none, some (.int out.1), none], []) (107, out.2, J, mm_rf rv sp rr w nw) Q → mm_T none (d + 5) 288 (36, [some (.ref 62), some (.int y1), some (.int y2), some (.int y3), some (.int y4)], []) (107, I, J, mm_rf rv sp rr w nw) Q := by
  intro n
  induction n with
  | zero =>
    intro y1 y2 y3 y4 I J rv sp rr w nw out e k
    rw [fX12_straight_L36] at e; cases e
  | succ n ih =>
    intro y1 y2 y3 y4 I J rv sp rr w nw out e k
    rw [fX12_straight_L36] at e
    refine mm_T.seg (f' := (41, [some (.ref 62), some (.int y1), some (.int y2), some (.int y3), some (.int y4)], [(.int y1), (.ref 62), (.int 3), (.int y4)])) (h' := (107, I, J, mm_rf rv sp rr w nw)) 4 rfl ?_
    obtain ⟨o711, eo711, e⟩ := mm_bind e
    refine mm_T.call (t := 278) (as := [(.ref 62), (.int y1)]) (f' := (44, [some (.ref 62), some (.int y1), some (.int y2), some (.int y3), some (.int y4)], [(.int 3), (.int y4)])) rfl (tX12_leftOf (d + 4) y1 I J rv sp rr w nw o711 eo711) (fun v h hq => ?_)
    obtain ⟨rfl, rfl⟩ := hq
    obtain ⟨o712, eo712, e⟩ := mm_bind e
    refine mm_T.call (t := 277) (as := [(.int 3), (.int o711)]) (f' := (47, [some (.ref 62), some (.int y1), some (.int y2), some (.int y3), some (.int y4)], [(.int y4)])) rfl (tX12_power (d + 4) n 3 o711 I J rv sp rr w nw o712 eo712) (fun v h hq => ?_)
    obtain ⟨rfl, rfl⟩ := hq
    refine mm_T.br (c := y4 < o712) (a := ((50, [some (.ref 62), some (.int y1), some (.int y2), some (.int y3), some (.int y4)], []), (107, I, J, mm_rf rv sp rr w nw))) (b := ((107, [some (.ref 62), some (.int y1), some (.int y2), some (.int y3), some (.int y4)], []), (107, I, J, mm_rf rv sp rr w nw))) rfl (fun h713 => ?_) (fun h713 => ?_)
    · rw [if_pos h713] at e
      refine mm_T.seg (f' := (54, [some (.ref 62), some (.int y1), some (.int y2), some (.int y3), some (.int y4)], [(.int y4), (.int y1), (.ref 62)])) (h' := (107, I, J, mm_rf rv sp rr w nw)) 3 rfl ?_
      obtain ⟨o714, eo714, e⟩ := mm_bind e
      refine mm_T.call (t := 279) (as := [(.ref 62), (.int y1), (.int y4)]) (f' := (57, [some (.ref 62), some (.int y1), some (.int y2), some (.int y3), some (.int y4)], [])) rfl (tX12_goRow (d + 0) n y1 y4 I J rv sp rr w nw o714 eo714) (fun v h hq => ?_)
      obtain ⟨rfl, rfl⟩ := hq
      refine mm_T.br (c := o714.1 = 0) (a := ((101, [some (.ref 62), some (.int y1), some (.int y2), some (.int y3), some (.int y4)], []), (107, o714.2, J, mm_rf rv sp rr w nw))) (b := ((60, [some (.ref 62), some (.int y1), some (.int y2), some (.int y3), some (.int y4)], []), (107, o714.2, J, mm_rf rv sp rr w nw))) rfl (fun h715 => ?_) (fun h715 => ?_)
      · rw [if_pos h715] at e
        refine mm_T.seg (f' := (36, [some (.ref 62), some (.int y1), some (.int y2), some (.int y3), some (.int (y4 + 1))], [])) (h' := (107, o714.2, J, mm_rf rv sp rr w nw)) 2 rfl ?_
        refine mm_T.mask [true, true, true, true, true] ?_
        exact ih y1 y2 y3 (y4 + 1) o714.2 J rv sp rr w nw out e k
      · rw [if_neg h715] at e
        refine mm_T.seg (f' := (65, [some (.ref 62), some (.int y1), some (.int y2), some (.int y3), some (.int y4)], [(.int y1), (.ref 85)])) (h' := (107, o714.2, J, mm_rf rv sp rr w nw)) 3 rfl ?_
        by_cases h716 : y1 < 0 ∨ 28 ≤ y1.toNatClampNeg
        · rw [if_pos h716] at e; cases e
        rw [if_neg h716] at e
        refine mm_T.guard (y := ((66, [some (.ref 62), some (.int y1), some (.int y2), some (.int y3), some (.int y4)], [(.int (o714.2 85 y1.toNatClampNeg))]), (107, o714.2, J, mm_rf rv sp rr w nw))) rfl h716 ?_
        refine mm_T.seg (f' := (67, [some (.ref 62), some (.int y1), some (.int y2), some (.int y3), some (.int y4)], [(.int y2), (.int (o714.2 85 y1.toNatClampNeg))])) (h' := (107, o714.2, J, mm_rf rv sp rr w nw)) 1 rfl ?_
        refine mm_T.br (c := (o714.2 85 y1.toNatClampNeg) = y2) (a := ((70, [some (.ref 62), some (.int y1), some (.int y2), some (.int y3), some (.int y4)], []), (107, o714.2, J, mm_rf rv sp rr w nw))) (b := ((101, [some (.ref 62), some (.int y1), some (.int y2), some (.int y3), some (.int y4)], []), (107, o714.2, J, mm_rf rv sp rr w nw))) rfl (fun h717 => ?_) (fun h717 => ?_)
        · rw [if_pos h717] at e
          refine mm_T.seg (f' := (73, [some (.ref 62), some (.int y1), some (.int y2), some (.int y3), some (.int y4)], [(.int y1), (.ref 62), (.ref 62)])) (h' := (107, o714.2, J, mm_rf rv sp rr w nw)) 3 rfl ?_
          obtain ⟨o718, eo718, e⟩ := mm_bind e
          refine mm_T.call (t := 278) (as := [(.ref 62), (.int y1)]) (f' := (76, [some (.ref 62), some (.int y1), some (.int y2), some (.int y3), some (.int y4)], [(.ref 62)])) rfl (tX12_leftOf (d + 4) y1 o714.2 J rv sp rr w nw o718 eo718) (fun v h hq => ?_)
          obtain ⟨rfl, rfl⟩ := hq
          obtain ⟨o719, eo719, e⟩ := mm_bind e
          refine mm_T.call (t := 287) (as := [(.ref 62), (.int o718)]) (f' := (79, [some (.ref 62), some (.int y1), some (.int y2), some (.int y3), some (.int y4)], [])) rfl (tX12_turned (d + 3) n o718 o714.2 J rv sp rr w nw o719 eo719) (fun v h hq => ?_)
          obtain ⟨rfl, rfl⟩ := hq
          refine mm_T.seg (f' := (80, [some (.ref 62), some (.int y1), some (.int y2), some (.int y3), some (.int y4)], [(.int y3), (.int o719)])) (h' := (107, o714.2, J, mm_rf rv sp rr w nw)) 1 rfl ?_
          refine mm_T.br (c := o719 < y3) (a := ((86, [some (.ref 62), some (.int y1), some (.int y2), some (.int y3), some (.int y4)], []), (107, o714.2, J, mm_rf rv sp rr w nw))) (b := ((83, [some (.ref 62), some (.int y1), some (.int y2), some (.int y3), some (.int y4)], []), (107, o714.2, J, mm_rf rv sp rr w nw))) rfl (fun h720 => ?_) (fun h720 => ?_)
          · rw [if_pos h720] at e
            refine mm_T.seg (f' := (89, [some (.ref 62), some (.int y1), some (.int y2), some (.int y3), some (.int y4)], [(.int y1), (.ref 62), (.ref 62)])) (h' := (107, o714.2, J, mm_rf rv sp rr w nw)) 3 rfl ?_
            obtain ⟨o721, eo721, e⟩ := mm_bind e
            refine mm_T.call (t := 278) (as := [(.ref 62), (.int y1)]) (f' := (92, [some (.ref 62), some (.int y1), some (.int y2), some (.int y3), some (.int y4)], [(.ref 62)])) rfl (tX12_leftOf (d + 4) y1 o714.2 J rv sp rr w nw o721 eo721) (fun v h hq => ?_)
            obtain ⟨rfl, rfl⟩ := hq
            obtain ⟨o722, eo722, e⟩ := mm_bind e
            refine mm_T.call (t := 287) (as := [(.ref 62), (.int o721)]) (f' := (95, [some (.ref 62), some (.int y1), some (.int y2), some (.int y3), some (.int y4)], [])) rfl (tX12_turned (d + 3) n o721 o714.2 J rv sp rr w nw o722 eo722) (fun v h hq => ?_)
            obtain ⟨rfl, rfl⟩ := hq
            refine mm_T.seg (f' := (98, [some (.ref 62), some (.int y1), some (.int y2), some (.int o722), some (.int y4)], [(.int y1), (.ref 62)])) (h' := (107, o714.2, J, mm_rf rv sp rr w nw)) 3 rfl ?_
            obtain ⟨o723, eo723, e⟩ := mm_bind e
            refine mm_T.call (t := 280) (as := [(.ref 62), (.int y1)]) (f' := (101, [some (.ref 62), some (.int y1), some (.int y2), some (.int o722), some (.int y4)], [])) rfl (tX12_putSteers (d + 3) n y1 o714.2 J rv sp rr w nw o723 eo723) (fun v h hq => ?_)
            obtain ⟨rfl, rfl⟩ := hq
            refine mm_T.seg (f' := (36, [some (.ref 62), some (.int y1), some (.int y2), some (.int o722), some (.int (y4 + 1))], [])) (h' := (107, o723, J, mm_rf rv sp rr w nw)) 2 rfl ?_
            refine mm_T.mask [true, true, true, true, true] ?_
            exact ih y1 y2 o722 (y4 + 1) o723 J rv sp rr w nw out e k
          · rw [if_neg h720] at e
            refine mm_T.seg (f' := (36, [some (.ref 62), some (.int y1), some (.int y2), some (.int y3), some (.int (y4 + 1))], [])) (h' := (107, o714.2, J, mm_rf rv sp rr w nw)) 3 rfl ?_
            refine mm_T.mask [true, true, true, true, true] ?_
            exact ih y1 y2 y3 (y4 + 1) o714.2 J rv sp rr w nw out e k
        · rw [if_neg h717] at e
          refine mm_T.seg (f' := (36, [some (.ref 62), some (.int y1), some (.int y2), some (.int y3), some (.int (y4 + 1))], [])) (h' := (107, o714.2, J, mm_rf rv sp rr w nw)) 2 rfl ?_
          refine mm_T.mask [true, true, true, true, true] ?_
          exact ih y1 y2 y3 (y4 + 1) o714.2 J rv sp rr w nw out e k
    · rw [if_neg h713] at e
      cases e
      refine mm_T.mask [false, false, false, true, false] ?_
      exact k
set_option maxRecDepth 100000 in
set_option maxHeartbeats 4000000 in
theorem tX12_straight (d n : Nat) (x1 : Int32) (x2 : Int32) (I : Nat → Nat → Int32) (J : Nat → Nat → Int64) (rv sp rr w nw : Nat) (out : Int32 × (Nat → Nat → Int32)) (e : fX12_straight n x1 x2 I = some out) : mm_T none (d + 5) 288 (mm_ent 288 [(.ref 62), (.int x1), (.int x2)]) (107, I, J, mm_rf rv sp rr w nw) (fun v h => v = some (.int out.1) ∧ h = (107, out.2, J, mm_rf rv sp rr w nw)) := by
  unfold fX12_straight at e
  refine mm_T.seg (f' := (7, [some (.ref 62), some (.int x1), some (.int x2), none, none], [(.int x1), (.ref 62)])) (h' := (107, (mm_up I 62 61 0), J, mm_rf rv sp rr w nw)) 5 rfl ?_
  obtain ⟨o708, eo708, e⟩ := mm_bind e
  refine mm_T.call (t := 253) (as := [(.ref 62), (.int x1)]) (f' := (10, [some (.ref 62), some (.int x1), some (.int x2), none, none], [])) rfl (tX12_isBoard (d + 3) x1 (mm_up I 62 61 0) J rv sp rr w nw o708 eo708) (fun v h hq => ?_)
  obtain ⟨rfl, rfl⟩ := hq
  refine mm_T.br (c := o708 = 0) (a := ((27, [some (.ref 62), some (.int x1), some (.int x2), none, none], []), (107, (mm_up I 62 61 0), J, mm_rf rv sp rr w nw))) (b := ((13, [some (.ref 62), some (.int x1), some (.int x2), none, none], []), (107, (mm_up I 62 61 0), J, mm_rf rv sp rr w nw))) rfl (fun h709 => ?_) (fun h709 => ?_)
  · rw [if_pos h709] at e
    refine mm_T.seg (f' := (28, [some (.ref 62), some (.int x1), some (.int x2), none, none], [(.int (-1))])) (h' := (107, (mm_up I 62 61 0), J, mm_rf rv sp rr w nw)) 1 rfl ?_
    cases e
    exact mm_T.ret rfl ⟨rfl, rfl⟩
  · rw [if_neg h709] at e
    refine mm_T.seg (f' := (21, [some (.ref 62), some (.int x1), some (.int x2), none, none], [(.int ((I 62 46) - 1)), (.int 0), (.int x2)])) (h' := (107, (mm_up I 62 61 0), J, mm_rf rv sp rr w nw)) 6 rfl ?_
    refine mm_T.call (t := 252) (as := [(.int x2), (.int 0), (.int ((I 62 46) - 1))]) (f' := (24, [some (.ref 62), some (.int x1), some (.int x2), none, none], [])) rfl (tX12_isIn (d + 4) x2 0 ((I 62 46) - 1) (mm_up I 62 61 0) J rv sp rr w nw _ rfl) (fun v h hq => ?_)
    obtain ⟨rfl, rfl⟩ := hq
    refine mm_T.br (c := (fX12_isIn x2 0 ((I 62 46) - 1)) = 0) (a := ((27, [some (.ref 62), some (.int x1), some (.int x2), none, none], []), (107, (mm_up I 62 61 0), J, mm_rf rv sp rr w nw))) (b := ((29, [some (.ref 62), some (.int x1), some (.int x2), none, none], []), (107, (mm_up I 62 61 0), J, mm_rf rv sp rr w nw))) rfl (fun h710 => ?_) (fun h710 => ?_)
    · rw [if_pos h710] at e
      refine mm_T.seg (f' := (28, [some (.ref 62), some (.int x1), some (.int x2), none, none], [(.int (-1))])) (h' := (107, (mm_up I 62 61 0), J, mm_rf rv sp rr w nw)) 1 rfl ?_
      cases e
      exact mm_T.ret rfl ⟨rfl, rfl⟩
    · rw [if_neg h710] at e
      refine mm_T.seg (f' := (36, [some (.ref 62), some (.int x1), some (.int x2), some (.int 1000000), some (.int 0)], [])) (h' := (107, (mm_up I 62 61 0), J, mm_rf rv sp rr w nw)) 4 rfl ?_
      refine mm_T.mask [true, true, true, true, true] ?_
      obtain ⟨o724, eo724, e⟩ := mm_bind e
      refine tlX12_straight_L36 d _ n x1 x2 1000000 0 (mm_up I 62 61 0) J rv sp rr w nw o724 eo724 ?_
      refine mm_T.seg (f' := (111, [none, none, none, some (.int o724.1), none], [(.int 1000000), (.int o724.1)])) (h' := (107, o724.2, J, mm_rf rv sp rr w nw)) 2 rfl ?_
      refine mm_T.br (c := o724.1 = 1000000) (a := ((114, [none, none, none, some (.int o724.1), none], []), (107, o724.2, J, mm_rf rv sp rr w nw))) (b := ((118, [none, none, none, some (.int o724.1), none], []), (107, o724.2, J, mm_rf rv sp rr w nw))) rfl (fun h725 => ?_) (fun h725 => ?_)
      · rw [if_pos h725] at e
        refine mm_T.seg (f' := (119, [none, none, none, some (.int o724.1), none], [(.int (-1))])) (h' := (107, o724.2, J, mm_rf rv sp rr w nw)) 2 rfl ?_
        cases e
        exact mm_T.ret rfl ⟨rfl, rfl⟩
      · rw [if_neg h725] at e
        refine mm_T.seg (f' := (119, [none, none, none, some (.int o724.1), none], [(.int o724.1)])) (h' := (107, o724.2, J, mm_rf rv sp rr w nw)) 1 rfl ?_
        cases e
        exact mm_T.ret rfl ⟨rfl, rfl⟩
def fX12_wideOf_L4 (n : Nat) (y1 : Int32) (y2 : Int32) (y3 : Int32) (I : Nat → Nat → Int32) : Option (Int32) := match n with
  | 0 => none
  | n + 1 => (if y3 < (I 62 49) then (if ((y1 >>> (y3 &&& 31)) &&& 1) = 1 then (if y3 < 0 ∨ 7 ≤ y3.toNatClampNeg then none else fX12_wideOf_L4 n y1 (y2 + (I 83 y3.toNatClampNeg)) (y3 + 1) I) else fX12_wideOf_L4 n y1 (y2 + 0) (y3 + 1) I) else some y2)
def fX12_wideOf (n : Nat) (x1 : Int32) (I : Nat → Nat → Int32) : Option (Int32) := (fX12_wideOf_L4 n x1 0 0 I).bind fun o729 => some o729
set_option maxRecDepth 100000 in
set_option maxHeartbeats 4000000 in
theorem tlX12_wideOf_L4 (d : Nat) (Q : Option Value → mm_H → Prop) : ∀ (n : Nat) (y1 : Int32) (y2 : Int32) (y3 : Int32) (I : Nat → Nat → Int32) (J : Nat → Nat → Int64) (rv sp rr w nw : Nat), ∀ (out : Int32), fX12_wideOf_L4 n y1 y2 y3 I = some out → mm_T none (d + 0) 289 (40, [none, none, some (.int out), none], []) (107, I, J, mm_rf rv sp rr w nw) Q → mm_T none (d + 0) 289 (4, [some (.ref 62), some (.int y1), some (.int y2), some (.int y3)], []) (107, I, J, mm_rf rv sp rr w nw) Q := by
  intro n
  induction n with
  | zero =>
    intro y1 y2 y3 I J rv sp rr w nw out e k
    rw [fX12_wideOf_L4] at e; cases e
  | succ n ih =>
    intro y1 y2 y3 I J rv sp rr w nw out e k
    rw [fX12_wideOf_L4] at e
    refine mm_T.seg (f' := (9, [some (.ref 62), some (.int y1), some (.int y2), some (.int y3)], [(.int (I 62 49)), (.int y3)])) (h' := (107, I, J, mm_rf rv sp rr w nw)) 3 rfl ?_
    refine mm_T.br (c := y3 < (I 62 49)) (a := ((12, [some (.ref 62), some (.int y1), some (.int y2), some (.int y3)], []), (107, I, J, mm_rf rv sp rr w nw))) (b := ((40, [some (.ref 62), some (.int y1), some (.int y2), some (.int y3)], []), (107, I, J, mm_rf rv sp rr w nw))) rfl (fun h726 => ?_) (fun h726 => ?_)
    · rw [if_pos h726] at e
      refine mm_T.seg (f' := (19, [some (.ref 62), some (.int y1), some (.int y2), some (.int y3)], [(.int 1), (.int ((y1 >>> (y3 &&& 31)) &&& 1)), (.int y2)])) (h' := (107, I, J, mm_rf rv sp rr w nw)) 7 rfl ?_
      refine mm_T.br (c := ((y1 >>> (y3 &&& 31)) &&& 1) = 1) (a := ((22, [some (.ref 62), some (.int y1), some (.int y2), some (.int y3)], [(.int y2)]), (107, I, J, mm_rf rv sp rr w nw))) (b := ((31, [some (.ref 62), some (.int y1), some (.int y2), some (.int y3)], [(.int y2)]), (107, I, J, mm_rf rv sp rr w nw))) rfl (fun h727 => ?_) (fun h727 => ?_)
      · rw [if_pos h727] at e
        refine mm_T.seg (f' := (27, [some (.ref 62), some (.int y1), some (.int y2), some (.int y3)], [(.int y3), (.ref 83), (.int y2)])) (h' := (107, I, J, mm_rf rv sp rr w nw)) 3 rfl ?_
        by_cases h728 : y3 < 0 ∨ 7 ≤ y3.toNatClampNeg
        · rw [if_pos h728] at e; cases e
        rw [if_neg h728] at e
        refine mm_T.guard (y := ((28, [some (.ref 62), some (.int y1), some (.int y2), some (.int y3)], [(.int (I 83 y3.toNatClampNeg)), (.int y2)]), (107, I, J, mm_rf rv sp rr w nw))) rfl h728 ?_
        refine mm_T.seg (f' := (4, [some (.ref 62), some (.int y1), some (.int (y2 + (I 83 y3.toNatClampNeg))), some (.int (y3 + 1))], [])) (h' := (107, I, J, mm_rf rv sp rr w nw)) 5 rfl ?_
        refine mm_T.mask [true, true, true, true] ?_
        exact ih y1 (y2 + (I 83 y3.toNatClampNeg)) (y3 + 1) I J rv sp rr w nw out e k
      · rw [if_neg h727] at e
        refine mm_T.seg (f' := (4, [some (.ref 62), some (.int y1), some (.int (y2 + 0)), some (.int (y3 + 1))], [])) (h' := (107, I, J, mm_rf rv sp rr w nw)) 5 rfl ?_
        refine mm_T.mask [true, true, true, true] ?_
        exact ih y1 (y2 + 0) (y3 + 1) I J rv sp rr w nw out e k
    · rw [if_neg h726] at e
      cases e
      refine mm_T.mask [false, false, true, false] ?_
      exact k
set_option maxRecDepth 100000 in
set_option maxHeartbeats 4000000 in
theorem tX12_wideOf (d n : Nat) (x1 : Int32) (I : Nat → Nat → Int32) (J : Nat → Nat → Int64) (rv sp rr w nw : Nat) (out : Int32) (e : fX12_wideOf n x1 I = some out) : mm_T none (d + 0) 289 (mm_ent 289 [(.ref 62), (.int x1)]) (107, I, J, mm_rf rv sp rr w nw) (fun v h => v = some (.int out) ∧ h = (107, I, J, mm_rf rv sp rr w nw)) := by
  unfold fX12_wideOf at e
  refine mm_T.seg (f' := (4, [some (.ref 62), some (.int x1), some (.int 0), some (.int 0)], [])) (h' := (107, I, J, mm_rf rv sp rr w nw)) 4 rfl ?_
  refine mm_T.mask [true, true, true, true] ?_
  obtain ⟨o729, eo729, e⟩ := mm_bind e
  refine tlX12_wideOf_L4 d _ n x1 0 0 I J rv sp rr w nw o729 eo729 ?_
  refine mm_T.seg (f' := (41, [none, none, some (.int o729), none], [(.int o729)])) (h' := (107, I, J, mm_rf rv sp rr w nw)) 1 rfl ?_
  cases e
  exact mm_T.ret rfl ⟨rfl, rfl⟩
def fX12_widest_L54 (n : Nat) (y1 : Int32) (y2 : Int32) (y3 : Int32) (y4 : Int32) (y5 : Int32) (I : Nat → Nat → Int32) : Option (Int32) := match n with
  | 0 => none
  | n + 1 => (if y3 < y5 then some y4 else (if (y5 &&& (y3 ^^^ (-1))) = 0 then (fX12_burdenOf n y1 I).bind fun o740 => (fX12_wideOf n y5 I).bind fun o741 => (if y1 < 0 ∨ 4 ≤ y1.toNatClampNeg then none else (if (I 80 y1.toNatClampNeg) < (o740 + o741) then fX12_widest_L54 n y1 y2 y3 y4 (y5 + 1) I else (fX12_wideOf n y5 I).bind fun o744 => (fX12_wideOf n y4 I).bind fun o745 => (if o745 < o744 then fX12_widest_L54 n y1 y2 y3 y5 (y5 + 1) I else fX12_widest_L54 n y1 y2 y3 y4 (y5 + 1) I))) else fX12_widest_L54 n y1 y2 y3 y4 (y5 + 1) I))
def fX12_widest (n : Nat) (x1 : Int32) (x2 : Int32) (I : Nat → Nat → Int32) : Option (Int32 × (Nat → Nat → Int32)) := (fX12_isBoard x1 I).bind fun o730 => (if o730 = 0 then some ((-1), I) else (fX12_isAtBank x1 I).bind fun o732 => (if o732 = 0 then some ((-1), I) else (if (fX12_isIn x2 0 1) = 0 then some ((-1), I) else (fX12_fill n I).bind fun o735 => (if (4 + x1) < 0 ∨ 28 ≤ (4 + x1).toNatClampNeg then none else (fX12_loadsAt n (fX12_bankOf (o735 84 (4 + x1).toNatClampNeg)) o735).bind fun o737 => (fX12_widest_L54 n x1 x2 o737 0 1 o735).bind fun o747 => (if x2 = 0 then (fX12_wideOf n o747 o735).bind fun o749 => some (o749, o735) else some (o747, o735))))))
set_option maxRecDepth 100000 in
set_option maxHeartbeats 4000000 in
theorem tlX12_widest_L54 (d : Nat) (Q : Option Value → mm_H → Prop) : ∀ (n : Nat) (y1 : Int32) (y2 : Int32) (y3 : Int32) (y4 : Int32) (y5 : Int32) (I : Nat → Nat → Int32) (J : Nat → Nat → Int64) (rv sp rr w nw : Nat), ∀ (out : Int32), fX12_widest_L54 n y1 y2 y3 y4 y5 I = some out → mm_T none (d + 2) 290 (115, [some (.ref 62), none, some (.int y2), none, some (.int out), none], []) (107, I, J, mm_rf rv sp rr w nw) Q → mm_T none (d + 2) 290 (54, [some (.ref 62), some (.int y1), some (.int y2), some (.int y3), some (.int y4), some (.int y5)], []) (107, I, J, mm_rf rv sp rr w nw) Q := by
  intro n
  induction n with
  | zero =>
    intro y1 y2 y3 y4 y5 I J rv sp rr w nw out e k
    rw [fX12_widest_L54] at e; cases e
  | succ n ih =>
    intro y1 y2 y3 y4 y5 I J rv sp rr w nw out e k
    rw [fX12_widest_L54] at e
    refine mm_T.seg (f' := (57, [some (.ref 62), some (.int y1), some (.int y2), some (.int y3), some (.int y4), some (.int y5)], [(.int y3), (.int y5)])) (h' := (107, I, J, mm_rf rv sp rr w nw)) 2 rfl ?_
    refine mm_T.br (c := y3 < y5) (a := ((115, [some (.ref 62), some (.int y1), some (.int y2), some (.int y3), some (.int y4), some (.int y5)], []), (107, I, J, mm_rf rv sp rr w nw))) (b := ((60, [some (.ref 62), some (.int y1), some (.int y2), some (.int y3), some (.int y4), some (.int y5)], []), (107, I, J, mm_rf rv sp rr w nw))) rfl (fun h738 => ?_) (fun h738 => ?_)
    · rw [if_pos h738] at e
      cases e
      refine mm_T.mask [true, false, true, false, true, false] ?_
      exact k
    · rw [if_neg h738] at e
      refine mm_T.seg (f' := (66, [some (.ref 62), some (.int y1), some (.int y2), some (.int y3), some (.int y4), some (.int y5)], [(.int (y5 &&& (y3 ^^^ (-1))))])) (h' := (107, I, J, mm_rf rv sp rr w nw)) 5 rfl ?_
      refine mm_T.br (c := (y5 &&& (y3 ^^^ (-1))) = 0) (a := ((69, [some (.ref 62), some (.int y1), some (.int y2), some (.int y3), some (.int y4), some (.int y5)], []), (107, I, J, mm_rf rv sp rr w nw))) (b := ((109, [some (.ref 62), some (.int y1), some (.int y2), some (.int y3), some (.int y4), some (.int y5)], []), (107, I, J, mm_rf rv sp rr w nw))) rfl (fun h739 => ?_) (fun h739 => ?_)
      · rw [if_pos h739] at e
        refine mm_T.seg (f' := (71, [some (.ref 62), some (.int y1), some (.int y2), some (.int y3), some (.int y4), some (.int y5)], [(.int y1), (.ref 62)])) (h' := (107, I, J, mm_rf rv sp rr w nw)) 2 rfl ?_
        obtain ⟨o740, eo740, e⟩ := mm_bind e
        refine mm_T.call (t := 240) (as := [(.ref 62), (.int y1)]) (f' := (74, [some (.ref 62), some (.int y1), some (.int y2), some (.int y3), some (.int y4), some (.int y5)], [])) rfl (tX12_burdenOf (d + 1) n y1 I J rv sp rr w nw o740 eo740) (fun v h hq => ?_)
        obtain ⟨rfl, rfl⟩ := hq
        refine mm_T.seg (f' := (77, [some (.ref 62), some (.int y1), some (.int y2), some (.int y3), some (.int y4), some (.int y5)], [(.int y5), (.ref 62), (.int o740)])) (h' := (107, I, J, mm_rf rv sp rr w nw)) 2 rfl ?_
        obtain ⟨o741, eo741, e⟩ := mm_bind e
        refine mm_T.call (t := 289) (as := [(.ref 62), (.int y5)]) (f' := (80, [some (.ref 62), some (.int y1), some (.int y2), some (.int y3), some (.int y4), some (.int y5)], [(.int o740)])) rfl (tX12_wideOf (d + 1) n y5 I J rv sp rr w nw o741 eo741) (fun v h hq => ?_)
        obtain ⟨rfl, rfl⟩ := hq
        refine mm_T.seg (f' := (86, [some (.ref 62), some (.int y1), some (.int y2), some (.int y3), some (.int y4), some (.int y5)], [(.int y1), (.ref 80), (.int (o740 + o741))])) (h' := (107, I, J, mm_rf rv sp rr w nw)) 4 rfl ?_
        by_cases h742 : y1 < 0 ∨ 4 ≤ y1.toNatClampNeg
        · rw [if_pos h742] at e; cases e
        rw [if_neg h742] at e
        refine mm_T.guard (y := ((87, [some (.ref 62), some (.int y1), some (.int y2), some (.int y3), some (.int y4), some (.int y5)], [(.int (I 80 y1.toNatClampNeg)), (.int (o740 + o741))]), (107, I, J, mm_rf rv sp rr w nw))) rfl h742 ?_
        refine mm_T.br (c := (I 80 y1.toNatClampNeg) < (o740 + o741)) (a := ((109, [some (.ref 62), some (.int y1), some (.int y2), some (.int y3), some (.int y4), some (.int y5)], []), (107, I, J, mm_rf rv sp rr w nw))) (b := ((90, [some (.ref 62), some (.int y1), some (.int y2), some (.int y3), some (.int y4), some (.int y5)], []), (107, I, J, mm_rf rv sp rr w nw))) rfl (fun h743 => ?_) (fun h743 => ?_)
        · rw [if_pos h743] at e
          refine mm_T.seg (f' := (54, [some (.ref 62), some (.int y1), some (.int y2), some (.int y3), some (.int y4), some (.int (y5 + 1))], [])) (h' := (107, I, J, mm_rf rv sp rr w nw)) 2 rfl ?_
          refine mm_T.mask [true, true, true, true, true, true] ?_
          exact ih y1 y2 y3 y4 (y5 + 1) I J rv sp rr w nw out e k
        · rw [if_neg h743] at e
          refine mm_T.seg (f' := (93, [some (.ref 62), some (.int y1), some (.int y2), some (.int y3), some (.int y4), some (.int y5)], [(.int y5), (.ref 62)])) (h' := (107, I, J, mm_rf rv sp rr w nw)) 2 rfl ?_
          obtain ⟨o744, eo744, e⟩ := mm_bind e
          refine mm_T.call (t := 289) (as := [(.ref 62), (.int y5)]) (f' := (96, [some (.ref 62), some (.int y1), some (.int y2), some (.int y3), some (.int y4), some (.int y5)], [])) rfl (tX12_wideOf (d + 1) n y5 I J rv sp rr w nw o744 eo744) (fun v h hq => ?_)
          obtain ⟨rfl, rfl⟩ := hq
          refine mm_T.seg (f' := (99, [some (.ref 62), some (.int y1), some (.int y2), some (.int y3), some (.int y4), some (.int y5)], [(.int y4), (.ref 62), (.int o744)])) (h' := (107, I, J, mm_rf rv sp rr w nw)) 2 rfl ?_
          obtain ⟨o745, eo745, e⟩ := mm_bind e
          refine mm_T.call (t := 289) (as := [(.ref 62), (.int y4)]) (f' := (102, [some (.ref 62), some (.int y1), some (.int y2), some (.int y3), some (.int y4), some (.int y5)], [(.int o744)])) rfl (tX12_wideOf (d + 1) n y4 I J rv sp rr w nw o745 eo745) (fun v h hq => ?_)
          obtain ⟨rfl, rfl⟩ := hq
          refine mm_T.br (c := o745 < o744) (a := ((105, [some (.ref 62), some (.int y1), some (.int y2), some (.int y3), some (.int y4), some (.int y5)], []), (107, I, J, mm_rf rv sp rr w nw))) (b := ((109, [some (.ref 62), some (.int y1), some (.int y2), some (.int y3), some (.int y4), some (.int y5)], []), (107, I, J, mm_rf rv sp rr w nw))) rfl (fun h746 => ?_) (fun h746 => ?_)
          · rw [if_pos h746] at e
            refine mm_T.seg (f' := (54, [some (.ref 62), some (.int y1), some (.int y2), some (.int y3), some (.int y5), some (.int (y5 + 1))], [])) (h' := (107, I, J, mm_rf rv sp rr w nw)) 4 rfl ?_
            refine mm_T.mask [true, true, true, true, true, true] ?_
            exact ih y1 y2 y3 y5 (y5 + 1) I J rv sp rr w nw out e k
          · rw [if_neg h746] at e
            refine mm_T.seg (f' := (54, [some (.ref 62), some (.int y1), some (.int y2), some (.int y3), some (.int y4), some (.int (y5 + 1))], [])) (h' := (107, I, J, mm_rf rv sp rr w nw)) 2 rfl ?_
            refine mm_T.mask [true, true, true, true, true, true] ?_
            exact ih y1 y2 y3 y4 (y5 + 1) I J rv sp rr w nw out e k
      · rw [if_neg h739] at e
        refine mm_T.seg (f' := (54, [some (.ref 62), some (.int y1), some (.int y2), some (.int y3), some (.int y4), some (.int (y5 + 1))], [])) (h' := (107, I, J, mm_rf rv sp rr w nw)) 2 rfl ?_
        refine mm_T.mask [true, true, true, true, true, true] ?_
        exact ih y1 y2 y3 y4 (y5 + 1) I J rv sp rr w nw out e k
set_option maxRecDepth 100000 in
set_option maxHeartbeats 4000000 in
theorem tX12_widest (d n : Nat) (x1 : Int32) (x2 : Int32) (I : Nat → Nat → Int32) (J : Nat → Nat → Int64) (rv sp rr w nw : Nat) (out : Int32 × (Nat → Nat → Int32)) (e : fX12_widest n x1 x2 I = some out) : mm_T none (d + 2) 290 (mm_ent 290 [(.ref 62), (.int x1), (.int x2)]) (107, I, J, mm_rf rv sp rr w nw) (fun v h => v = some (.int out.1) ∧ h = (107, out.2, J, mm_rf rv sp rr w nw)) := by
  unfold fX12_widest at e
  refine mm_T.seg (f' := (2, [some (.ref 62), some (.int x1), some (.int x2), none, none, none], [(.int x1), (.ref 62)])) (h' := (107, I, J, mm_rf rv sp rr w nw)) 2 rfl ?_
  obtain ⟨o730, eo730, e⟩ := mm_bind e
  refine mm_T.call (t := 253) (as := [(.ref 62), (.int x1)]) (f' := (5, [some (.ref 62), some (.int x1), some (.int x2), none, none, none], [])) rfl (tX12_isBoard (d + 0) x1 I J rv sp rr w nw o730 eo730) (fun v h hq => ?_)
  obtain ⟨rfl, rfl⟩ := hq
  refine mm_T.br (c := o730 = 0) (a := ((25, [some (.ref 62), some (.int x1), some (.int x2), none, none, none], []), (107, I, J, mm_rf rv sp rr w nw))) (b := ((8, [some (.ref 62), some (.int x1), some (.int x2), none, none, none], []), (107, I, J, mm_rf rv sp rr w nw))) rfl (fun h731 => ?_) (fun h731 => ?_)
  · rw [if_pos h731] at e
    refine mm_T.seg (f' := (26, [some (.ref 62), some (.int x1), some (.int x2), none, none, none], [(.int (-1))])) (h' := (107, I, J, mm_rf rv sp rr w nw)) 1 rfl ?_
    cases e
    exact mm_T.ret rfl ⟨rfl, rfl⟩
  · rw [if_neg h731] at e
    refine mm_T.seg (f' := (10, [some (.ref 62), some (.int x1), some (.int x2), none, none, none], [(.int x1), (.ref 62)])) (h' := (107, I, J, mm_rf rv sp rr w nw)) 2 rfl ?_
    obtain ⟨o732, eo732, e⟩ := mm_bind e
    refine mm_T.call (t := 270) (as := [(.ref 62), (.int x1)]) (f' := (13, [some (.ref 62), some (.int x1), some (.int x2), none, none, none], [])) rfl (tX12_isAtBank (d + 1) x1 I J rv sp rr w nw o732 eo732) (fun v h hq => ?_)
    obtain ⟨rfl, rfl⟩ := hq
    refine mm_T.br (c := o732 = 0) (a := ((25, [some (.ref 62), some (.int x1), some (.int x2), none, none, none], []), (107, I, J, mm_rf rv sp rr w nw))) (b := ((16, [some (.ref 62), some (.int x1), some (.int x2), none, none, none], []), (107, I, J, mm_rf rv sp rr w nw))) rfl (fun h733 => ?_) (fun h733 => ?_)
    · rw [if_pos h733] at e
      refine mm_T.seg (f' := (26, [some (.ref 62), some (.int x1), some (.int x2), none, none, none], [(.int (-1))])) (h' := (107, I, J, mm_rf rv sp rr w nw)) 1 rfl ?_
      cases e
      exact mm_T.ret rfl ⟨rfl, rfl⟩
    · rw [if_neg h733] at e
      refine mm_T.seg (f' := (19, [some (.ref 62), some (.int x1), some (.int x2), none, none, none], [(.int 1), (.int 0), (.int x2)])) (h' := (107, I, J, mm_rf rv sp rr w nw)) 3 rfl ?_
      refine mm_T.call (t := 252) (as := [(.int x2), (.int 0), (.int 1)]) (f' := (22, [some (.ref 62), some (.int x1), some (.int x2), none, none, none], [])) rfl (tX12_isIn (d + 1) x2 0 1 I J rv sp rr w nw _ rfl) (fun v h hq => ?_)
      obtain ⟨rfl, rfl⟩ := hq
      refine mm_T.br (c := (fX12_isIn x2 0 1) = 0) (a := ((25, [some (.ref 62), some (.int x1), some (.int x2), none, none, none], []), (107, I, J, mm_rf rv sp rr w nw))) (b := ((27, [some (.ref 62), some (.int x1), some (.int x2), none, none, none], []), (107, I, J, mm_rf rv sp rr w nw))) rfl (fun h734 => ?_) (fun h734 => ?_)
      · rw [if_pos h734] at e
        refine mm_T.seg (f' := (26, [some (.ref 62), some (.int x1), some (.int x2), none, none, none], [(.int (-1))])) (h' := (107, I, J, mm_rf rv sp rr w nw)) 1 rfl ?_
        cases e
        exact mm_T.ret rfl ⟨rfl, rfl⟩
      · rw [if_neg h734] at e
        refine mm_T.seg (f' := (28, [some (.ref 62), some (.int x1), some (.int x2), none, none, none], [(.ref 62)])) (h' := (107, I, J, mm_rf rv sp rr w nw)) 1 rfl ?_
        obtain ⟨o735, eo735, e⟩ := mm_bind e
        refine mm_T.call (t := 256) (as := [(.ref 62)]) (f' := (31, [some (.ref 62), some (.int x1), some (.int x2), none, none, none], [])) rfl (tX12_fill (d + 1) n I J rv sp rr w nw o735 eo735) (fun v h hq => ?_)
        obtain ⟨rfl, rfl⟩ := hq
        refine mm_T.seg (f' := (40, [some (.ref 62), some (.int x1), some (.int x2), none, none, none], [(.int (4 + x1)), (.ref 84), (.ref 62), (.ref 62)])) (h' := (107, o735, J, mm_rf rv sp rr w nw)) 7 rfl ?_
        by_cases h736 : (4 + x1) < 0 ∨ 28 ≤ (4 + x1).toNatClampNeg
        · rw [if_pos h736] at e; cases e
        rw [if_neg h736] at e
        refine mm_T.guard (y := ((41, [some (.ref 62), some (.int x1), some (.int x2), none, none, none], [(.int (o735 84 (4 + x1).toNatClampNeg)), (.ref 62), (.ref 62)]), (107, o735, J, mm_rf rv sp rr w nw))) rfl h736 ?_
        refine mm_T.call (t := 271) (as := [(.ref 62), (.int (o735 84 (4 + x1).toNatClampNeg))]) (f' := (44, [some (.ref 62), some (.int x1), some (.int x2), none, none, none], [(.ref 62)])) rfl (tX12_bankOf (d + 1) (o735 84 (4 + x1).toNatClampNeg) o735 J rv sp rr w nw _ rfl) (fun v h hq => ?_)
        obtain ⟨rfl, rfl⟩ := hq
        obtain ⟨o737, eo737, e⟩ := mm_bind e
        refine mm_T.call (t := 262) (as := [(.ref 62), (.int (fX12_bankOf (o735 84 (4 + x1).toNatClampNeg)))]) (f' := (47, [some (.ref 62), some (.int x1), some (.int x2), none, none, none], [])) rfl (tX12_loadsAt (d + 0) n (fX12_bankOf (o735 84 (4 + x1).toNatClampNeg)) o735 J rv sp rr w nw o737 eo737) (fun v h hq => ?_)
        obtain ⟨rfl, rfl⟩ := hq
        refine mm_T.seg (f' := (54, [some (.ref 62), some (.int x1), some (.int x2), some (.int o737), some (.int 0), some (.int 1)], [])) (h' := (107, o735, J, mm_rf rv sp rr w nw)) 5 rfl ?_
        refine mm_T.mask [true, true, true, true, true, true] ?_
        obtain ⟨o747, eo747, e⟩ := mm_bind e
        refine tlX12_widest_L54 d _ n x1 x2 o737 0 1 o735 J rv sp rr w nw o747 eo747 ?_
        refine mm_T.seg (f' := (116, [some (.ref 62), none, some (.int x2), none, some (.int o747), none], [(.int x2)])) (h' := (107, o735, J, mm_rf rv sp rr w nw)) 1 rfl ?_
        refine mm_T.br (c := x2 = 0) (a := ((119, [some (.ref 62), none, some (.int x2), none, some (.int o747), none], []), (107, o735, J, mm_rf rv sp rr w nw))) (b := ((128, [some (.ref 62), none, some (.int x2), none, some (.int o747), none], []), (107, o735, J, mm_rf rv sp rr w nw))) rfl (fun h748 => ?_) (fun h748 => ?_)
        · rw [if_pos h748] at e
          refine mm_T.seg (f' := (122, [some (.ref 62), none, some (.int x2), none, some (.int o747), none], [(.int o747), (.ref 62)])) (h' := (107, o735, J, mm_rf rv sp rr w nw)) 2 rfl ?_
          obtain ⟨o749, eo749, e⟩ := mm_bind e
          refine mm_T.call (t := 289) (as := [(.ref 62), (.int o747)]) (f' := (125, [some (.ref 62), none, some (.int x2), none, some (.int o747), none], [])) rfl (tX12_wideOf (d + 1) n o747 o735 J rv sp rr w nw o749 eo749) (fun v h hq => ?_)
          obtain ⟨rfl, rfl⟩ := hq
          refine mm_T.seg (f' := (130, [some (.ref 62), none, some (.int x2), none, some (.int o747), none], [(.int o749)])) (h' := (107, o735, J, mm_rf rv sp rr w nw)) 1 rfl ?_
          cases e
          exact mm_T.ret rfl ⟨rfl, rfl⟩
        · rw [if_neg h748] at e
          refine mm_T.seg (f' := (130, [some (.ref 62), none, some (.int x2), none, some (.int o747), none], [(.int o747)])) (h' := (107, o735, J, mm_rf rv sp rr w nw)) 1 rfl ?_
          cases e
          exact mm_T.ret rfl ⟨rfl, rfl⟩
def fX12_nearLoads (n : Nat) (I : Nat → Nat → Int32) : Option (Int32 × (Nat → Nat → Int32)) := (fX12_fill n I).bind fun o750 => (fX12_loadsAt n (-1) o750).bind fun o751 => some (o751, o750)
set_option maxRecDepth 100000 in
set_option maxHeartbeats 4000000 in
theorem tX12_nearLoads (d n : Nat) (I : Nat → Nat → Int32) (J : Nat → Nat → Int64) (rv sp rr w nw : Nat) (out : Int32 × (Nat → Nat → Int32)) (e : fX12_nearLoads n I = some out) : mm_T none (d + 2) 291 (mm_ent 291 [(.ref 62)]) (107, I, J, mm_rf rv sp rr w nw) (fun v h => v = some (.int out.1) ∧ h = (107, out.2, J, mm_rf rv sp rr w nw)) := by
  unfold fX12_nearLoads at e
  refine mm_T.seg (f' := (1, [some (.ref 62)], [(.ref 62)])) (h' := (107, I, J, mm_rf rv sp rr w nw)) 1 rfl ?_
  obtain ⟨o750, eo750, e⟩ := mm_bind e
  refine mm_T.call (t := 256) (as := [(.ref 62)]) (f' := (4, [some (.ref 62)], [])) rfl (tX12_fill (d + 1) n I J rv sp rr w nw o750 eo750) (fun v h hq => ?_)
  obtain ⟨rfl, rfl⟩ := hq
  refine mm_T.seg (f' := (6, [some (.ref 62)], [(.int (-1)), (.ref 62)])) (h' := (107, o750, J, mm_rf rv sp rr w nw)) 2 rfl ?_
  obtain ⟨o751, eo751, e⟩ := mm_bind e
  refine mm_T.call (t := 262) (as := [(.ref 62), (.int (-1))]) (f' := (9, [some (.ref 62)], [])) rfl (tX12_loadsAt (d + 0) n (-1) o750 J rv sp rr w nw o751 eo751) (fun v h hq => ?_)
  obtain ⟨rfl, rfl⟩ := hq
  cases e
  exact mm_T.ret rfl ⟨rfl, rfl⟩
def fX12_isFlat_L2 (n : Nat) (y1 : Int32) (y2 : Int32) (y3 : Int32) (I : Nat → Nat → Int32) : Option ((Nat → Nat → Int32)) := match n with
  | 0 => none
  | n + 1 => (if y3 < 8 then (if y3 < 0 ∨ 8 ≤ y3.toNatClampNeg then none else fX12_isFlat_L2 n y1 y2 (y3 + 1) (mm_up I 91 y3.toNatClampNeg 0)) else some I)
def fX12_isFlat_L26 (n : Nat) (y1 : Int32) (y2 : Int32) (y3 : Int32) (y4 : Int32) (I : Nat → Nat → Int32) : Option (Int32 × (Nat → Nat → Int32)) := match n with
  | 0 => none
  | n + 1 => (if y4 < (I 62 49) then (if ((y1 >>> (y4 &&& 31)) &&& 1) = 0 then fX12_isFlat_L26 n y1 y2 y3 (y4 + 1) I else (if y4 < 0 ∨ 7 ≤ y4.toNatClampNeg then none else (if (I 89 y4.toNatClampNeg) < 0 ∨ 8 ≤ (I 89 y4.toNatClampNeg).toNatClampNeg then none else (if y4 < 0 ∨ 7 ≤ y4.toNatClampNeg then none else (if (I 89 y4.toNatClampNeg) < 0 ∨ 8 ≤ (I 89 y4.toNatClampNeg).toNatClampNeg then none else (if y3 = 0 then fX12_isFlat_L26 n y1 y2 0 (y4 + 1) (mm_up I 91 (I 89 y4.toNatClampNeg).toNatClampNeg ((I 91 (I 89 y4.toNatClampNeg).toNatClampNeg) + (I 83 y4.toNatClampNeg))) else (if y4 < 0 ∨ 7 ≤ y4.toNatClampNeg then none else (if (I 89 y4.toNatClampNeg) < 0 ∨ 8 ≤ (I 89 y4.toNatClampNeg).toNatClampNeg then none else (if y2 < ((mm_up I 91 (I 89 y4.toNatClampNeg).toNatClampNeg ((I 91 (I 89 y4.toNatClampNeg).toNatClampNeg) + (I 83 y4.toNatClampNeg))) 91 (I 89 y4.toNatClampNeg).toNatClampNeg) then fX12_isFlat_L26 n y1 y2 0 (y4 + 1) (mm_up I 91 (I 89 y4.toNatClampNeg).toNatClampNeg ((I 91 (I 89 y4.toNatClampNeg).toNatClampNeg) + (I 83 y4.toNatClampNeg))) else fX12_isFlat_L26 n y1 y2 1 (y4 + 1) (mm_up I 91 (I 89 y4.toNatClampNeg).toNatClampNeg ((I 91 (I 89 y4.toNatClampNeg).toNatClampNeg) + (I 83 y4.toNatClampNeg)))))))))))) else some (y3, I))
def fX12_isFlat (n : Nat) (x1 : Int32) (x2 : Int32) (I : Nat → Nat → Int32) : Option (Int32 × (Nat → Nat → Int32)) := (fX12_isFlat_L2 n x1 x2 0 I).bind fun o754 => (fX12_isFlat_L26 n x1 x2 1 0 o754).bind fun o765 => (if o765.1 = 0 ∨ o765.1 = 1 then some (o765.1, o765.2) else none)
set_option maxRecDepth 100000 in
set_option maxHeartbeats 4000000 in
theorem tlX12_isFlat_L2 (d : Nat) (Q : Option Value → mm_H → Prop) : ∀ (n : Nat) (y1 : Int32) (y2 : Int32) (y3 : Int32) (I : Nat → Nat → Int32) (J : Nat → Nat → Int64) (rv sp rr w nw : Nat), ∀ (out : (Nat → Nat → Int32)), fX12_isFlat_L2 n y1 y2 y3 I = some out → mm_T none (d + 0) 292 (21, [some (.ref 62), some (.int y1), some (.int y2), none, none], []) (107, out, J, mm_rf rv sp rr w nw) Q → mm_T none (d + 0) 292 (2, [some (.ref 62), some (.int y1), some (.int y2), some (.int y3), none], []) (107, I, J, mm_rf rv sp rr w nw) Q := by
  intro n
  induction n with
  | zero =>
    intro y1 y2 y3 I J rv sp rr w nw out e k
    rw [fX12_isFlat_L2] at e; cases e
  | succ n ih =>
    intro y1 y2 y3 I J rv sp rr w nw out e k
    rw [fX12_isFlat_L2] at e
    refine mm_T.seg (f' := (5, [some (.ref 62), some (.int y1), some (.int y2), some (.int y3), none], [(.int 8), (.int y3)])) (h' := (107, I, J, mm_rf rv sp rr w nw)) 2 rfl ?_
    refine mm_T.br (c := y3 < 8) (a := ((8, [some (.ref 62), some (.int y1), some (.int y2), some (.int y3), none], []), (107, I, J, mm_rf rv sp rr w nw))) (b := ((21, [some (.ref 62), some (.int y1), some (.int y2), some (.int y3), none], []), (107, I, J, mm_rf rv sp rr w nw))) rfl (fun h752 => ?_) (fun h752 => ?_)
    · rw [if_pos h752] at e
      refine mm_T.seg (f' := (14, [some (.ref 62), some (.int y1), some (.int y2), some (.int y3), none], [(.int 0), (.int y3), (.ref 91)])) (h' := (107, I, J, mm_rf rv sp rr w nw)) 4 rfl ?_
      by_cases h753 : y3 < 0 ∨ 8 ≤ y3.toNatClampNeg
      · rw [if_pos h753] at e; cases e
      rw [if_neg h753] at e
      refine mm_T.guard (y := ((15, [some (.ref 62), some (.int y1), some (.int y2), some (.int y3), none], []), (107, (mm_up I 91 y3.toNatClampNeg 0), J, mm_rf rv sp rr w nw))) rfl h753 ?_
      refine mm_T.seg (f' := (2, [some (.ref 62), some (.int y1), some (.int y2), some (.int (y3 + 1)), none], [])) (h' := (107, (mm_up I 91 y3.toNatClampNeg 0), J, mm_rf rv sp rr w nw)) 2 rfl ?_
      refine mm_T.mask [true, true, true, true, false] ?_
      exact ih y1 y2 (y3 + 1) (mm_up I 91 y3.toNatClampNeg 0) J rv sp rr w nw out e k
    · rw [if_neg h752] at e
      cases e
      refine mm_T.mask [true, true, true, false, false] ?_
      exact k
set_option maxRecDepth 100000 in
set_option maxHeartbeats 4000000 in
theorem tlX12_isFlat_L26 (d : Nat) (Q : Option Value → mm_H → Prop) : ∀ (n : Nat) (y1 : Int32) (y2 : Int32) (y3 : Int32) (y4 : Int32) (I : Nat → Nat → Int32) (J : Nat → Nat → Int64) (rv sp rr w nw : Nat), ∀ (out : Int32 × (Nat → Nat → Int32)), fX12_isFlat_L26 n y1 y2 y3 y4 I = some out → mm_T none (d + 0) 292 (101, [none, none, none, some (.int out.1), none], []) (107, out.2, J, mm_rf rv sp rr w nw) Q → mm_T none (d + 0) 292 (26, [some (.ref 62), some (.int y1), some (.int y2), some (.int y3), some (.int y4)], []) (107, I, J, mm_rf rv sp rr w nw) Q := by
  intro n
  induction n with
  | zero =>
    intro y1 y2 y3 y4 I J rv sp rr w nw out e k
    rw [fX12_isFlat_L26] at e; cases e
  | succ n ih =>
    intro y1 y2 y3 y4 I J rv sp rr w nw out e k
    rw [fX12_isFlat_L26] at e
    refine mm_T.seg (f' := (32, [some (.ref 62), some (.int y1), some (.int y2), some (.int y3), some (.int y4)], [(.int (I 62 49)), (.int y4)])) (h' := (107, I, J, mm_rf rv sp rr w nw)) 3 rfl ?_
    refine mm_T.br (c := y4 < (I 62 49)) (a := ((35, [some (.ref 62), some (.int y1), some (.int y2), some (.int y3), some (.int y4)], []), (107, I, J, mm_rf rv sp rr w nw))) (b := ((101, [some (.ref 62), some (.int y1), some (.int y2), some (.int y3), some (.int y4)], []), (107, I, J, mm_rf rv sp rr w nw))) rfl (fun h755 => ?_) (fun h755 => ?_)
    · rw [if_pos h755] at e
      refine mm_T.seg (f' := (41, [some (.ref 62), some (.int y1), some (.int y2), some (.int y3), some (.int y4)], [(.int ((y1 >>> (y4 &&& 31)) &&& 1))])) (h' := (107, I, J, mm_rf rv sp rr w nw)) 5 rfl ?_
      refine mm_T.br (c := ((y1 >>> (y4 &&& 31)) &&& 1) = 0) (a := ((44, [some (.ref 62), some (.int y1), some (.int y2), some (.int y3), some (.int y4)], []), (107, I, J, mm_rf rv sp rr w nw))) (b := ((47, [some (.ref 62), some (.int y1), some (.int y2), some (.int y3), some (.int y4)], []), (107, I, J, mm_rf rv sp rr w nw))) rfl (fun h756 => ?_) (fun h756 => ?_)
      · rw [if_pos h756] at e
        refine mm_T.seg (f' := (26, [some (.ref 62), some (.int y1), some (.int y2), some (.int y3), some (.int (y4 + 1))], [])) (h' := (107, I, J, mm_rf rv sp rr w nw)) 3 rfl ?_
        refine mm_T.mask [true, true, true, true, true] ?_
        exact ih y1 y2 y3 (y4 + 1) I J rv sp rr w nw out e k
      · rw [if_neg h756] at e
        refine mm_T.seg (f' := (57, [some (.ref 62), some (.int y1), some (.int y2), some (.int y3), some (.int y4)], [(.int y4), (.ref 89), (.ref 91)])) (h' := (107, I, J, mm_rf rv sp rr w nw)) 5 rfl ?_
        by_cases h757 : y4 < 0 ∨ 7 ≤ y4.toNatClampNeg
        · rw [if_pos h757] at e; cases e
        rw [if_neg h757] at e
        refine mm_T.guard (y := ((58, [some (.ref 62), some (.int y1), some (.int y2), some (.int y3), some (.int y4)], [(.int (I 89 y4.toNatClampNeg)), (.ref 91)]), (107, I, J, mm_rf rv sp rr w nw))) rfl h757 ?_
        refine mm_T.seg (f' := (59, [some (.ref 62), some (.int y1), some (.int y2), some (.int y3), some (.int y4)], [(.int (I 89 y4.toNatClampNeg)), (.ref 91), (.int (I 89 y4.toNatClampNeg)), (.ref 91)])) (h' := (107, I, J, mm_rf rv sp rr w nw)) 1 rfl ?_
        by_cases h758 : (I 89 y4.toNatClampNeg) < 0 ∨ 8 ≤ (I 89 y4.toNatClampNeg).toNatClampNeg
        · rw [if_pos h758] at e; cases e
        rw [if_neg h758] at e
        refine mm_T.guard (y := ((60, [some (.ref 62), some (.int y1), some (.int y2), some (.int y3), some (.int y4)], [(.int (I 91 (I 89 y4.toNatClampNeg).toNatClampNeg)), (.int (I 89 y4.toNatClampNeg)), (.ref 91)]), (107, I, J, mm_rf rv sp rr w nw))) rfl h758 ?_
        refine mm_T.seg (f' := (66, [some (.ref 62), some (.int y1), some (.int y2), some (.int y3), some (.int y4)], [(.int y4), (.ref 83), (.int (I 91 (I 89 y4.toNatClampNeg).toNatClampNeg)), (.int (I 89 y4.toNatClampNeg)), (.ref 91)])) (h' := (107, I, J, mm_rf rv sp rr w nw)) 3 rfl ?_
        by_cases h759 : y4 < 0 ∨ 7 ≤ y4.toNatClampNeg
        · rw [if_pos h759] at e; cases e
        rw [if_neg h759] at e
        refine mm_T.guard (y := ((67, [some (.ref 62), some (.int y1), some (.int y2), some (.int y3), some (.int y4)], [(.int (I 83 y4.toNatClampNeg)), (.int (I 91 (I 89 y4.toNatClampNeg).toNatClampNeg)), (.int (I 89 y4.toNatClampNeg)), (.ref 91)]), (107, I, J, mm_rf rv sp rr w nw))) rfl h759 ?_
        refine mm_T.seg (f' := (68, [some (.ref 62), some (.int y1), some (.int y2), some (.int y3), some (.int y4)], [(.int ((I 91 (I 89 y4.toNatClampNeg).toNatClampNeg) + (I 83 y4.toNatClampNeg))), (.int (I 89 y4.toNatClampNeg)), (.ref 91)])) (h' := (107, I, J, mm_rf rv sp rr w nw)) 1 rfl ?_
        by_cases h760 : (I 89 y4.toNatClampNeg) < 0 ∨ 8 ≤ (I 89 y4.toNatClampNeg).toNatClampNeg
        · rw [if_pos h760] at e; cases e
        rw [if_neg h760] at e
        refine mm_T.guard (y := ((69, [some (.ref 62), some (.int y1), some (.int y2), some (.int y3), some (.int y4)], []), (107, (mm_up I 91 (I 89 y4.toNatClampNeg).toNatClampNeg ((I 91 (I 89 y4.toNatClampNeg).toNatClampNeg) + (I 83 y4.toNatClampNeg))), J, mm_rf rv sp rr w nw))) rfl h760 ?_
        refine mm_T.seg (f' := (70, [some (.ref 62), some (.int y1), some (.int y2), some (.int y3), some (.int y4)], [(.int y3)])) (h' := (107, (mm_up I 91 (I 89 y4.toNatClampNeg).toNatClampNeg ((I 91 (I 89 y4.toNatClampNeg).toNatClampNeg) + (I 83 y4.toNatClampNeg))), J, mm_rf rv sp rr w nw)) 1 rfl ?_
        refine mm_T.br (c := y3 = 0) (a := ((93, [some (.ref 62), some (.int y1), some (.int y2), some (.int y3), some (.int y4)], []), (107, (mm_up I 91 (I 89 y4.toNatClampNeg).toNatClampNeg ((I 91 (I 89 y4.toNatClampNeg).toNatClampNeg) + (I 83 y4.toNatClampNeg))), J, mm_rf rv sp rr w nw))) (b := ((73, [some (.ref 62), some (.int y1), some (.int y2), some (.int y3), some (.int y4)], []), (107, (mm_up I 91 (I 89 y4.toNatClampNeg).toNatClampNeg ((I 91 (I 89 y4.toNatClampNeg).toNatClampNeg) + (I 83 y4.toNatClampNeg))), J, mm_rf rv sp rr w nw))) rfl (fun h761 => ?_) (fun h761 => ?_)
        · rw [if_pos h761] at e
          refine mm_T.seg (f' := (26, [some (.ref 62), some (.int y1), some (.int y2), some (.int 0), some (.int (y4 + 1))], [])) (h' := (107, (mm_up I 91 (I 89 y4.toNatClampNeg).toNatClampNeg ((I 91 (I 89 y4.toNatClampNeg).toNatClampNeg) + (I 83 y4.toNatClampNeg))), J, mm_rf rv sp rr w nw)) 4 rfl ?_
          refine mm_T.mask [true, true, true, true, true] ?_
          exact ih y1 y2 0 (y4 + 1) (mm_up I 91 (I 89 y4.toNatClampNeg).toNatClampNeg ((I 91 (I 89 y4.toNatClampNeg).toNatClampNeg) + (I 83 y4.toNatClampNeg))) J rv sp rr w nw out e k
        · rw [if_neg h761] at e
          refine mm_T.seg (f' := (83, [some (.ref 62), some (.int y1), some (.int y2), some (.int y3), some (.int y4)], [(.int y4), (.ref 89), (.ref 91)])) (h' := (107, (mm_up I 91 (I 89 y4.toNatClampNeg).toNatClampNeg ((I 91 (I 89 y4.toNatClampNeg).toNatClampNeg) + (I 83 y4.toNatClampNeg))), J, mm_rf rv sp rr w nw)) 5 rfl ?_
          by_cases h762 : y4 < 0 ∨ 7 ≤ y4.toNatClampNeg
          · rw [if_pos h762] at e; cases e
          rw [if_neg h762] at e
          refine mm_T.guard (y := ((84, [some (.ref 62), some (.int y1), some (.int y2), some (.int y3), some (.int y4)], [(.int (I 89 y4.toNatClampNeg)), (.ref 91)]), (107, (mm_up I 91 (I 89 y4.toNatClampNeg).toNatClampNeg ((I 91 (I 89 y4.toNatClampNeg).toNatClampNeg) + (I 83 y4.toNatClampNeg))), J, mm_rf rv sp rr w nw))) rfl h762 ?_
          by_cases h763 : (I 89 y4.toNatClampNeg) < 0 ∨ 8 ≤ (I 89 y4.toNatClampNeg).toNatClampNeg
          · rw [if_pos h763] at e; cases e
          rw [if_neg h763] at e
          refine mm_T.guard (y := ((85, [some (.ref 62), some (.int y1), some (.int y2), some (.int y3), some (.int y4)], [(.int ((mm_up I 91 (I 89 y4.toNatClampNeg).toNatClampNeg ((I 91 (I 89 y4.toNatClampNeg).toNatClampNeg) + (I 83 y4.toNatClampNeg))) 91 (I 89 y4.toNatClampNeg).toNatClampNeg))]), (107, (mm_up I 91 (I 89 y4.toNatClampNeg).toNatClampNeg ((I 91 (I 89 y4.toNatClampNeg).toNatClampNeg) + (I 83 y4.toNatClampNeg))), J, mm_rf rv sp rr w nw))) rfl h763 ?_
          refine mm_T.seg (f' := (86, [some (.ref 62), some (.int y1), some (.int y2), some (.int y3), some (.int y4)], [(.int y2), (.int ((mm_up I 91 (I 89 y4.toNatClampNeg).toNatClampNeg ((I 91 (I 89 y4.toNatClampNeg).toNatClampNeg) + (I 83 y4.toNatClampNeg))) 91 (I 89 y4.toNatClampNeg).toNatClampNeg))])) (h' := (107, (mm_up I 91 (I 89 y4.toNatClampNeg).toNatClampNeg ((I 91 (I 89 y4.toNatClampNeg).toNatClampNeg) + (I 83 y4.toNatClampNeg))), J, mm_rf rv sp rr w nw)) 1 rfl ?_
          refine mm_T.br (c := y2 < ((mm_up I 91 (I 89 y4.toNatClampNeg).toNatClampNeg ((I 91 (I 89 y4.toNatClampNeg).toNatClampNeg) + (I 83 y4.toNatClampNeg))) 91 (I 89 y4.toNatClampNeg).toNatClampNeg)) (a := ((93, [some (.ref 62), some (.int y1), some (.int y2), some (.int y3), some (.int y4)], []), (107, (mm_up I 91 (I 89 y4.toNatClampNeg).toNatClampNeg ((I 91 (I 89 y4.toNatClampNeg).toNatClampNeg) + (I 83 y4.toNatClampNeg))), J, mm_rf rv sp rr w nw))) (b := ((89, [some (.ref 62), some (.int y1), some (.int y2), some (.int y3), some (.int y4)], []), (107, (mm_up I 91 (I 89 y4.toNatClampNeg).toNatClampNeg ((I 91 (I 89 y4.toNatClampNeg).toNatClampNeg) + (I 83 y4.toNatClampNeg))), J, mm_rf rv sp rr w nw))) rfl (fun h764 => ?_) (fun h764 => ?_)
          · rw [if_pos h764] at e
            refine mm_T.seg (f' := (26, [some (.ref 62), some (.int y1), some (.int y2), some (.int 0), some (.int (y4 + 1))], [])) (h' := (107, (mm_up I 91 (I 89 y4.toNatClampNeg).toNatClampNeg ((I 91 (I 89 y4.toNatClampNeg).toNatClampNeg) + (I 83 y4.toNatClampNeg))), J, mm_rf rv sp rr w nw)) 4 rfl ?_
            refine mm_T.mask [true, true, true, true, true] ?_
            exact ih y1 y2 0 (y4 + 1) (mm_up I 91 (I 89 y4.toNatClampNeg).toNatClampNeg ((I 91 (I 89 y4.toNatClampNeg).toNatClampNeg) + (I 83 y4.toNatClampNeg))) J rv sp rr w nw out e k
          · rw [if_neg h764] at e
            refine mm_T.seg (f' := (26, [some (.ref 62), some (.int y1), some (.int y2), some (.int 1), some (.int (y4 + 1))], [])) (h' := (107, (mm_up I 91 (I 89 y4.toNatClampNeg).toNatClampNeg ((I 91 (I 89 y4.toNatClampNeg).toNatClampNeg) + (I 83 y4.toNatClampNeg))), J, mm_rf rv sp rr w nw)) 5 rfl ?_
            refine mm_T.mask [true, true, true, true, true] ?_
            exact ih y1 y2 1 (y4 + 1) (mm_up I 91 (I 89 y4.toNatClampNeg).toNatClampNeg ((I 91 (I 89 y4.toNatClampNeg).toNatClampNeg) + (I 83 y4.toNatClampNeg))) J rv sp rr w nw out e k
    · rw [if_neg h755] at e
      cases e
      refine mm_T.mask [false, false, false, true, false] ?_
      exact k
set_option maxRecDepth 100000 in
set_option maxHeartbeats 4000000 in
theorem tX12_isFlat (d n : Nat) (x1 : Int32) (x2 : Int32) (I : Nat → Nat → Int32) (J : Nat → Nat → Int64) (rv sp rr w nw : Nat) (out : Int32 × (Nat → Nat → Int32)) (e : fX12_isFlat n x1 x2 I = some out) : mm_T none (d + 0) 292 (mm_ent 292 [(.ref 62), (.int x1), (.int x2)]) (107, I, J, mm_rf rv sp rr w nw) (fun v h => v = some (.int out.1) ∧ h = (107, out.2, J, mm_rf rv sp rr w nw)) := by
  unfold fX12_isFlat at e
  refine mm_T.seg (f' := (2, [some (.ref 62), some (.int x1), some (.int x2), some (.int 0), none], [])) (h' := (107, I, J, mm_rf rv sp rr w nw)) 2 rfl ?_
  refine mm_T.mask [true, true, true, true, false] ?_
  obtain ⟨o754, eo754, e⟩ := mm_bind e
  refine tlX12_isFlat_L2 d _ n x1 x2 0 I J rv sp rr w nw o754 eo754 ?_
  refine mm_T.seg (f' := (26, [some (.ref 62), some (.int x1), some (.int x2), some (.int 1), some (.int 0)], [])) (h' := (107, o754, J, mm_rf rv sp rr w nw)) 4 rfl ?_
  refine mm_T.mask [true, true, true, true, true] ?_
  obtain ⟨o765, eo765, e⟩ := mm_bind e
  refine tlX12_isFlat_L26 d _ n x1 x2 1 0 o754 J rv sp rr w nw o765 eo765 ?_
  refine mm_T.seg (f' := (102, [none, none, none, some (.int o765.1), none], [(.int o765.1)])) (h' := (107, o765.2, J, mm_rf rv sp rr w nw)) 1 rfl ?_
  by_cases h766 : o765.1 = 0 ∨ o765.1 = 1
  case neg => rw [if_neg h766] at e; cases e
  rw [if_pos h766] at e
  cases e
  exact mm_T.retZ (v := some (.int o765.1)) rfl h766 ⟨rfl, rfl⟩
def fX12_layBefore_L4 (n : Nat) (y1 : Int32) (y2 : Int32) (y3 : Int32) (I : Nat → Nat → Int32) : Option (Int32 × (Nat → Nat → Int32)) := match n with
  | 0 => none
  | n + 1 => (if y3 < (I 62 49) then (if y3 < 0 ∨ 8 ≤ y3.toNatClampNeg then none else (if ((y1 >>> (y3 &&& 31)) &&& 1) = 1 then (if y3 < 0 ∨ 7 ≤ y3.toNatClampNeg then none else (if (I 89 y3.toNatClampNeg) = y2 then fX12_layBefore_L4 n y1 (y2 + 1) (y3 + 1) (mm_up I 90 y3.toNatClampNeg y2) else fX12_layBefore_L4 n y1 y2 (y3 + 1) (mm_up I 90 y3.toNatClampNeg y2))) else fX12_layBefore_L4 n y1 y2 (y3 + 1) (mm_up I 90 y3.toNatClampNeg y2))) else some (y2, I))
def fX12_layBefore (n : Nat) (x1 : Int32) (I : Nat → Nat → Int32) : Option (Int32 × (Nat → Nat → Int32)) := (fX12_layBefore_L4 n x1 0 0 I).bind fun o784 => some (o784.1, o784.2)
set_option maxRecDepth 100000 in
set_option maxHeartbeats 4000000 in
theorem tlX12_layBefore_L4 (d : Nat) (Q : Option Value → mm_H → Prop) : ∀ (n : Nat) (y1 : Int32) (y2 : Int32) (y3 : Int32) (I : Nat → Nat → Int32) (J : Nat → Nat → Int64) (rv sp rr w nw : Nat), ∀ (out : Int32 × (Nat → Nat → Int32)), fX12_layBefore_L4 n y1 y2 y3 I = some out → mm_T none (d + 0) 294 (47, [none, none, some (.int out.1), none], []) (107, out.2, J, mm_rf rv sp rr w nw) Q → mm_T none (d + 0) 294 (4, [some (.ref 62), some (.int y1), some (.int y2), some (.int y3)], []) (107, I, J, mm_rf rv sp rr w nw) Q := by
  intro n
  induction n with
  | zero =>
    intro y1 y2 y3 I J rv sp rr w nw out e k
    rw [fX12_layBefore_L4] at e; cases e
  | succ n ih =>
    intro y1 y2 y3 I J rv sp rr w nw out e k
    rw [fX12_layBefore_L4] at e
    refine mm_T.seg (f' := (9, [some (.ref 62), some (.int y1), some (.int y2), some (.int y3)], [(.int (I 62 49)), (.int y3)])) (h' := (107, I, J, mm_rf rv sp rr w nw)) 3 rfl ?_
    refine mm_T.br (c := y3 < (I 62 49)) (a := ((12, [some (.ref 62), some (.int y1), some (.int y2), some (.int y3)], []), (107, I, J, mm_rf rv sp rr w nw))) (b := ((47, [some (.ref 62), some (.int y1), some (.int y2), some (.int y3)], []), (107, I, J, mm_rf rv sp rr w nw))) rfl (fun h779 => ?_) (fun h779 => ?_)
    · rw [if_pos h779] at e
      refine mm_T.seg (f' := (18, [some (.ref 62), some (.int y1), some (.int y2), some (.int y3)], [(.int y2), (.int y3), (.ref 90)])) (h' := (107, I, J, mm_rf rv sp rr w nw)) 4 rfl ?_
      by_cases h780 : y3 < 0 ∨ 8 ≤ y3.toNatClampNeg
      · rw [if_pos h780] at e; cases e
      rw [if_neg h780] at e
      refine mm_T.guard (y := ((19, [some (.ref 62), some (.int y1), some (.int y2), some (.int y3)], []), (107, (mm_up I 90 y3.toNatClampNeg y2), J, mm_rf rv sp rr w nw))) rfl h780 ?_
      refine mm_T.seg (f' := (25, [some (.ref 62), some (.int y1), some (.int y2), some (.int y3)], [(.int 1), (.int ((y1 >>> (y3 &&& 31)) &&& 1))])) (h' := (107, (mm_up I 90 y3.toNatClampNeg y2), J, mm_rf rv sp rr w nw)) 6 rfl ?_
      refine mm_T.br (c := ((y1 >>> (y3 &&& 31)) &&& 1) = 1) (a := ((28, [some (.ref 62), some (.int y1), some (.int y2), some (.int y3)], []), (107, (mm_up I 90 y3.toNatClampNeg y2), J, mm_rf rv sp rr w nw))) (b := ((41, [some (.ref 62), some (.int y1), some (.int y2), some (.int y3)], []), (107, (mm_up I 90 y3.toNatClampNeg y2), J, mm_rf rv sp rr w nw))) rfl (fun h781 => ?_) (fun h781 => ?_)
      · rw [if_pos h781] at e
        refine mm_T.seg (f' := (33, [some (.ref 62), some (.int y1), some (.int y2), some (.int y3)], [(.int y3), (.ref 89)])) (h' := (107, (mm_up I 90 y3.toNatClampNeg y2), J, mm_rf rv sp rr w nw)) 3 rfl ?_
        by_cases h782 : y3 < 0 ∨ 7 ≤ y3.toNatClampNeg
        · rw [if_pos h782] at e; cases e
        rw [if_neg h782] at e
        refine mm_T.guard (y := ((34, [some (.ref 62), some (.int y1), some (.int y2), some (.int y3)], [(.int (I 89 y3.toNatClampNeg))]), (107, (mm_up I 90 y3.toNatClampNeg y2), J, mm_rf rv sp rr w nw))) rfl h782 ?_
        refine mm_T.seg (f' := (35, [some (.ref 62), some (.int y1), some (.int y2), some (.int y3)], [(.int y2), (.int (I 89 y3.toNatClampNeg))])) (h' := (107, (mm_up I 90 y3.toNatClampNeg y2), J, mm_rf rv sp rr w nw)) 1 rfl ?_
        refine mm_T.br (c := (I 89 y3.toNatClampNeg) = y2) (a := ((38, [some (.ref 62), some (.int y1), some (.int y2), some (.int y3)], []), (107, (mm_up I 90 y3.toNatClampNeg y2), J, mm_rf rv sp rr w nw))) (b := ((41, [some (.ref 62), some (.int y1), some (.int y2), some (.int y3)], []), (107, (mm_up I 90 y3.toNatClampNeg y2), J, mm_rf rv sp rr w nw))) rfl (fun h783 => ?_) (fun h783 => ?_)
        · rw [if_pos h783] at e
          refine mm_T.seg (f' := (4, [some (.ref 62), some (.int y1), some (.int (y2 + 1)), some (.int (y3 + 1))], [])) (h' := (107, (mm_up I 90 y3.toNatClampNeg y2), J, mm_rf rv sp rr w nw)) 3 rfl ?_
          refine mm_T.mask [true, true, true, true] ?_
          exact ih y1 (y2 + 1) (y3 + 1) (mm_up I 90 y3.toNatClampNeg y2) J rv sp rr w nw out e k
        · rw [if_neg h783] at e
          refine mm_T.seg (f' := (4, [some (.ref 62), some (.int y1), some (.int y2), some (.int (y3 + 1))], [])) (h' := (107, (mm_up I 90 y3.toNatClampNeg y2), J, mm_rf rv sp rr w nw)) 2 rfl ?_
          refine mm_T.mask [true, true, true, true] ?_
          exact ih y1 y2 (y3 + 1) (mm_up I 90 y3.toNatClampNeg y2) J rv sp rr w nw out e k
      · rw [if_neg h781] at e
        refine mm_T.seg (f' := (4, [some (.ref 62), some (.int y1), some (.int y2), some (.int (y3 + 1))], [])) (h' := (107, (mm_up I 90 y3.toNatClampNeg y2), J, mm_rf rv sp rr w nw)) 2 rfl ?_
        refine mm_T.mask [true, true, true, true] ?_
        exact ih y1 y2 (y3 + 1) (mm_up I 90 y3.toNatClampNeg y2) J rv sp rr w nw out e k
    · rw [if_neg h779] at e
      cases e
      refine mm_T.mask [false, false, true, false] ?_
      exact k
set_option maxRecDepth 100000 in
set_option maxHeartbeats 4000000 in
theorem tX12_layBefore (d n : Nat) (x1 : Int32) (I : Nat → Nat → Int32) (J : Nat → Nat → Int64) (rv sp rr w nw : Nat) (out : Int32 × (Nat → Nat → Int32)) (e : fX12_layBefore n x1 I = some out) : mm_T none (d + 0) 294 (mm_ent 294 [(.ref 62), (.int x1)]) (107, I, J, mm_rf rv sp rr w nw) (fun v h => v = some (.int out.1) ∧ h = (107, out.2, J, mm_rf rv sp rr w nw)) := by
  unfold fX12_layBefore at e
  refine mm_T.seg (f' := (4, [some (.ref 62), some (.int x1), some (.int 0), some (.int 0)], [])) (h' := (107, I, J, mm_rf rv sp rr w nw)) 4 rfl ?_
  refine mm_T.mask [true, true, true, true] ?_
  obtain ⟨o784, eo784, e⟩ := mm_bind e
  refine tlX12_layBefore_L4 d _ n x1 0 0 I J rv sp rr w nw o784 eo784 ?_
  refine mm_T.seg (f' := (48, [none, none, some (.int o784.1), none], [(.int o784.1)])) (h' := (107, o784.2, J, mm_rf rv sp rr w nw)) 1 rfl ?_
  cases e
  exact mm_T.ret rfl ⟨rfl, rfl⟩
def fX12_nextTrips_L7 (n : Nat) (y1 : Int32) (y2 : Int32) (I : Nat → Nat → Int32) : Option (Int32) := match n with
  | 0 => none
  | n + 1 => (if y2 < 0 then some y2 else (if ((y1 >>> (y2 &&& 31)) &&& 1) = 0 then fX12_nextTrips_L7 n y1 (y2 + (-1)) else (if y2 < 0 ∨ 7 ≤ y2.toNatClampNeg then none else (if y2 < 0 ∨ 8 ≤ y2.toNatClampNeg then none else (if (I 89 y2.toNatClampNeg) = (I 90 y2.toNatClampNeg) then fX12_nextTrips_L7 n y1 (y2 + (-1)) I else some y2)))))
def fX12_nextTrips_L60 (n : Nat) (y1 : Int32) (y3 : Int32) (I : Nat → Nat → Int32) : Option ((Nat → Nat → Int32)) := match n with
  | 0 => none
  | n + 1 => (if y3 < (I 62 49) then (if y3 < 0 ∨ 7 ≤ y3.toNatClampNeg then none else fX12_nextTrips_L60 n y1 (y3 + 1) (mm_up I 89 y3.toNatClampNeg 0)) else some I)
def fX12_nextTrips (n : Nat) (x1 : Int32) (I : Nat → Nat → Int32) : Option (Int32 × (Nat → Nat → Int32)) := (fX12_nextTrips_L7 n x1 ((I 62 49) - 1) I).bind fun o772 => (if o772 < 0 then some (0, I) else (if o772 < 0 ∨ 7 ≤ o772.toNatClampNeg then none else (if o772 < 0 ∨ 7 ≤ o772.toNatClampNeg then none else (fX12_nextTrips_L60 n x1 (o772 + 1) (mm_up I 89 o772.toNatClampNeg ((I 89 o772.toNatClampNeg) + 1))).bind fun o778 => (fX12_layBefore n x1 o778).bind fun o785 => some (1, o785.2))))
set_option maxRecDepth 100000 in
set_option maxHeartbeats 4000000 in
theorem tlX12_nextTrips_L7 (d : Nat) (Q : Option Value → mm_H → Prop) : ∀ (n : Nat) (y1 : Int32) (y2 : Int32) (I : Nat → Nat → Int32) (J : Nat → Nat → Int64) (rv sp rr w nw : Nat), ∀ (out : Int32), fX12_nextTrips_L7 n y1 y2 I = some out → mm_T none (d + 1) 293 (40, [some (.ref 62), some (.int y1), some (.int out), none], []) (107, I, J, mm_rf rv sp rr w nw) Q → mm_T none (d + 1) 293 (7, [some (.ref 62), some (.int y1), some (.int y2), none], []) (107, I, J, mm_rf rv sp rr w nw) Q := by
  intro n
  induction n with
  | zero =>
    intro y1 y2 I J rv sp rr w nw out e k
    rw [fX12_nextTrips_L7] at e; cases e
  | succ n ih =>
    intro y1 y2 I J rv sp rr w nw out e k
    rw [fX12_nextTrips_L7] at e
    refine mm_T.seg (f' := (8, [some (.ref 62), some (.int y1), some (.int y2), none], [(.int y2)])) (h' := (107, I, J, mm_rf rv sp rr w nw)) 1 rfl ?_
    refine mm_T.br (c := y2 < 0) (a := ((40, [some (.ref 62), some (.int y1), some (.int y2), none], []), (107, I, J, mm_rf rv sp rr w nw))) (b := ((11, [some (.ref 62), some (.int y1), some (.int y2), none], []), (107, I, J, mm_rf rv sp rr w nw))) rfl (fun h767 => ?_) (fun h767 => ?_)
    · rw [if_pos h767] at e
      cases e
      refine mm_T.mask [true, true, true, false] ?_
      exact k
    · rw [if_neg h767] at e
      refine mm_T.seg (f' := (16, [some (.ref 62), some (.int y1), some (.int y2), none], [(.int ((y1 >>> (y2 &&& 31)) &&& 1))])) (h' := (107, I, J, mm_rf rv sp rr w nw)) 5 rfl ?_
      refine mm_T.br (c := ((y1 >>> (y2 &&& 31)) &&& 1) = 0) (a := ((34, [some (.ref 62), some (.int y1), some (.int y2), none], []), (107, I, J, mm_rf rv sp rr w nw))) (b := ((19, [some (.ref 62), some (.int y1), some (.int y2), none], []), (107, I, J, mm_rf rv sp rr w nw))) rfl (fun h768 => ?_) (fun h768 => ?_)
      · rw [if_pos h768] at e
        refine mm_T.seg (f' := (7, [some (.ref 62), some (.int y1), some (.int (y2 + (-1))), none], [])) (h' := (107, I, J, mm_rf rv sp rr w nw)) 2 rfl ?_
        refine mm_T.mask [true, true, true, false] ?_
        exact ih y1 (y2 + (-1)) I J rv sp rr w nw out e k
      · rw [if_neg h768] at e
        refine mm_T.seg (f' := (24, [some (.ref 62), some (.int y1), some (.int y2), none], [(.int y2), (.ref 89)])) (h' := (107, I, J, mm_rf rv sp rr w nw)) 3 rfl ?_
        by_cases h769 : y2 < 0 ∨ 7 ≤ y2.toNatClampNeg
        · rw [if_pos h769] at e; cases e
        rw [if_neg h769] at e
        refine mm_T.guard (y := ((25, [some (.ref 62), some (.int y1), some (.int y2), none], [(.int (I 89 y2.toNatClampNeg))]), (107, I, J, mm_rf rv sp rr w nw))) rfl h769 ?_
        refine mm_T.seg (f' := (30, [some (.ref 62), some (.int y1), some (.int y2), none], [(.int y2), (.ref 90), (.int (I 89 y2.toNatClampNeg))])) (h' := (107, I, J, mm_rf rv sp rr w nw)) 3 rfl ?_
        by_cases h770 : y2 < 0 ∨ 8 ≤ y2.toNatClampNeg
        · rw [if_pos h770] at e; cases e
        rw [if_neg h770] at e
        refine mm_T.guard (y := ((31, [some (.ref 62), some (.int y1), some (.int y2), none], [(.int (I 90 y2.toNatClampNeg)), (.int (I 89 y2.toNatClampNeg))]), (107, I, J, mm_rf rv sp rr w nw))) rfl h770 ?_
        refine mm_T.br (c := (I 89 y2.toNatClampNeg) = (I 90 y2.toNatClampNeg)) (a := ((34, [some (.ref 62), some (.int y1), some (.int y2), none], []), (107, I, J, mm_rf rv sp rr w nw))) (b := ((40, [some (.ref 62), some (.int y1), some (.int y2), none], []), (107, I, J, mm_rf rv sp rr w nw))) rfl (fun h771 => ?_) (fun h771 => ?_)
        · rw [if_pos h771] at e
          refine mm_T.seg (f' := (7, [some (.ref 62), some (.int y1), some (.int (y2 + (-1))), none], [])) (h' := (107, I, J, mm_rf rv sp rr w nw)) 2 rfl ?_
          refine mm_T.mask [true, true, true, false] ?_
          exact ih y1 (y2 + (-1)) I J rv sp rr w nw out e k
        · rw [if_neg h771] at e
          cases e
          refine mm_T.mask [true, true, true, false] ?_
          exact k
set_option maxRecDepth 100000 in
set_option maxHeartbeats 4000000 in
theorem tlX12_nextTrips_L60 (d : Nat) (Q : Option Value → mm_H → Prop) : ∀ (n : Nat) (y1 : Int32) (y3 : Int32) (I : Nat → Nat → Int32) (J : Nat → Nat → Int64) (rv sp rr w nw : Nat), ∀ (out : (Nat → Nat → Int32)), fX12_nextTrips_L60 n y1 y3 I = some out → mm_T none (d + 1) 293 (81, [some (.ref 62), some (.int y1), none, none], []) (107, out, J, mm_rf rv sp rr w nw) Q → mm_T none (d + 1) 293 (60, [some (.ref 62), some (.int y1), none, some (.int y3)], []) (107, I, J, mm_rf rv sp rr w nw) Q := by
  intro n
  induction n with
  | zero =>
    intro y1 y3 I J rv sp rr w nw out e k
    rw [fX12_nextTrips_L60] at e; cases e
  | succ n ih =>
    intro y1 y3 I J rv sp rr w nw out e k
    rw [fX12_nextTrips_L60] at e
    refine mm_T.seg (f' := (65, [some (.ref 62), some (.int y1), none, some (.int y3)], [(.int (I 62 49)), (.int y3)])) (h' := (107, I, J, mm_rf rv sp rr w nw)) 3 rfl ?_
    refine mm_T.br (c := y3 < (I 62 49)) (a := ((68, [some (.ref 62), some (.int y1), none, some (.int y3)], []), (107, I, J, mm_rf rv sp rr w nw))) (b := ((81, [some (.ref 62), some (.int y1), none, some (.int y3)], []), (107, I, J, mm_rf rv sp rr w nw))) rfl (fun h776 => ?_) (fun h776 => ?_)
    · rw [if_pos h776] at e
      refine mm_T.seg (f' := (74, [some (.ref 62), some (.int y1), none, some (.int y3)], [(.int 0), (.int y3), (.ref 89)])) (h' := (107, I, J, mm_rf rv sp rr w nw)) 4 rfl ?_
      by_cases h777 : y3 < 0 ∨ 7 ≤ y3.toNatClampNeg
      · rw [if_pos h777] at e; cases e
      rw [if_neg h777] at e
      refine mm_T.guard (y := ((75, [some (.ref 62), some (.int y1), none, some (.int y3)], []), (107, (mm_up I 89 y3.toNatClampNeg 0), J, mm_rf rv sp rr w nw))) rfl h777 ?_
      refine mm_T.seg (f' := (60, [some (.ref 62), some (.int y1), none, some (.int (y3 + 1))], [])) (h' := (107, (mm_up I 89 y3.toNatClampNeg 0), J, mm_rf rv sp rr w nw)) 2 rfl ?_
      refine mm_T.mask [true, true, false, true] ?_
      exact ih y1 (y3 + 1) (mm_up I 89 y3.toNatClampNeg 0) J rv sp rr w nw out e k
    · rw [if_neg h776] at e
      cases e
      refine mm_T.mask [true, true, false, false] ?_
      exact k
set_option maxRecDepth 100000 in
set_option maxHeartbeats 4000000 in
theorem tX12_nextTrips (d n : Nat) (x1 : Int32) (I : Nat → Nat → Int32) (J : Nat → Nat → Int64) (rv sp rr w nw : Nat) (out : Int32 × (Nat → Nat → Int32)) (e : fX12_nextTrips n x1 I = some out) : mm_T none (d + 1) 293 (mm_ent 293 [(.ref 62), (.int x1)]) (107, I, J, mm_rf rv sp rr w nw) (fun v h => v = some (.int out.1) ∧ h = (107, out.2, J, mm_rf rv sp rr w nw)) := by
  unfold fX12_nextTrips at e
  refine mm_T.seg (f' := (7, [some (.ref 62), some (.int x1), some (.int ((I 62 49) - 1)), none], [])) (h' := (107, I, J, mm_rf rv sp rr w nw)) 5 rfl ?_
  refine mm_T.mask [true, true, true, false] ?_
  obtain ⟨o772, eo772, e⟩ := mm_bind e
  refine tlX12_nextTrips_L7 d _ n x1 ((I 62 49) - 1) I J rv sp rr w nw o772 eo772 ?_
  refine mm_T.seg (f' := (41, [some (.ref 62), some (.int x1), some (.int o772), none], [(.int o772)])) (h' := (107, I, J, mm_rf rv sp rr w nw)) 1 rfl ?_
  refine mm_T.br (c := o772 < 0) (a := ((44, [some (.ref 62), some (.int x1), some (.int o772), none], []), (107, I, J, mm_rf rv sp rr w nw))) (b := ((46, [some (.ref 62), some (.int x1), some (.int o772), none], []), (107, I, J, mm_rf rv sp rr w nw))) rfl (fun h773 => ?_) (fun h773 => ?_)
  · rw [if_pos h773] at e
    refine mm_T.seg (f' := (45, [some (.ref 62), some (.int x1), some (.int o772), none], [(.int 0)])) (h' := (107, I, J, mm_rf rv sp rr w nw)) 1 rfl ?_
    cases e
    exact mm_T.ret rfl ⟨rfl, rfl⟩
  · rw [if_neg h773] at e
    refine mm_T.seg (f' := (52, [some (.ref 62), some (.int x1), some (.int o772), none], [(.int o772), (.ref 89), (.int o772), (.ref 89)])) (h' := (107, I, J, mm_rf rv sp rr w nw)) 4 rfl ?_
    by_cases h774 : o772 < 0 ∨ 7 ≤ o772.toNatClampNeg
    · rw [if_pos h774] at e; cases e
    rw [if_neg h774] at e
    refine mm_T.guard (y := ((53, [some (.ref 62), some (.int x1), some (.int o772), none], [(.int (I 89 o772.toNatClampNeg)), (.int o772), (.ref 89)]), (107, I, J, mm_rf rv sp rr w nw))) rfl h774 ?_
    refine mm_T.seg (f' := (55, [some (.ref 62), some (.int x1), some (.int o772), none], [(.int ((I 89 o772.toNatClampNeg) + 1)), (.int o772), (.ref 89)])) (h' := (107, I, J, mm_rf rv sp rr w nw)) 2 rfl ?_
    by_cases h775 : o772 < 0 ∨ 7 ≤ o772.toNatClampNeg
    · rw [if_pos h775] at e; cases e
    rw [if_neg h775] at e
    refine mm_T.guard (y := ((56, [some (.ref 62), some (.int x1), some (.int o772), none], []), (107, (mm_up I 89 o772.toNatClampNeg ((I 89 o772.toNatClampNeg) + 1)), J, mm_rf rv sp rr w nw))) rfl h775 ?_
    refine mm_T.seg (f' := (60, [some (.ref 62), some (.int x1), some (.int o772), some (.int (o772 + 1))], [])) (h' := (107, (mm_up I 89 o772.toNatClampNeg ((I 89 o772.toNatClampNeg) + 1)), J, mm_rf rv sp rr w nw)) 4 rfl ?_
    refine mm_T.mask [true, true, false, true] ?_
    obtain ⟨o778, eo778, e⟩ := mm_bind e
    refine tlX12_nextTrips_L60 d _ n x1 (o772 + 1) (mm_up I 89 o772.toNatClampNeg ((I 89 o772.toNatClampNeg) + 1)) J rv sp rr w nw o778 eo778 ?_
    refine mm_T.seg (f' := (83, [some (.ref 62), some (.int x1), none, none], [(.int x1), (.ref 62)])) (h' := (107, o778, J, mm_rf rv sp rr w nw)) 2 rfl ?_
    obtain ⟨o785, eo785, e⟩ := mm_bind e
    refine mm_T.call (t := 294) (as := [(.ref 62), (.int x1)]) (f' := (86, [some (.ref 62), some (.int x1), none, none], [])) rfl (tX12_layBefore (d + 0) n x1 o778 J rv sp rr w nw o785 eo785) (fun v h hq => ?_)
    obtain ⟨rfl, rfl⟩ := hq
    refine mm_T.seg (f' := (88, [some (.ref 62), some (.int x1), none, none], [(.int 1)])) (h' := (107, o785.2, J, mm_rf rv sp rr w nw)) 2 rfl ?_
    cases e
    exact mm_T.ret rfl ⟨rfl, rfl⟩
def fX12_trips_L27 (n : Nat) (y1 : Int32) (y2 : Int32) (y3 : Int32) (y4 : Int32) (I : Nat → Nat → Int32) : Option ((Nat → Nat → Int32)) := match n with
  | 0 => none
  | n + 1 => (if y4 < 7 then (if y4 < 0 ∨ 7 ≤ y4.toNatClampNeg then none else fX12_trips_L27 n y1 y2 y3 (y4 + 1) (mm_up I 89 y4.toNatClampNeg 0)) else some I)
def fX12_trips_L95 (n : Nat) (y1 : Int32) (y2 : Int32) (y3 : Int32) (y6 : Int32) (I : Nat → Nat → Int32) : Option ((Nat → Nat → Int32)) := match n with
  | 0 => none
  | n + 1 => (if y6 < (I 62 49) then (if ((y2 >>> (y6 &&& 31)) &&& 1) = 1 then (if y6 < 0 ∨ 7 ≤ y6.toNatClampNeg then none else (if y6 < 0 ∨ 7 ≤ y6.toNatClampNeg then none else fX12_trips_L95 n y1 y2 y3 (y6 + 1) (mm_up I 88 y6.toNatClampNeg (I 89 y6.toNatClampNeg)))) else (if y6 < 0 ∨ 7 ≤ y6.toNatClampNeg then none else fX12_trips_L95 n y1 y2 y3 (y6 + 1) (mm_up I 88 y6.toNatClampNeg (-1)))) else some I)
def fX12_trips_L57 (n : Nat) (y1 : Int32) (y2 : Int32) (y3 : Int32) (y4 : Int32) (I : Nat → Nat → Int32) : Option (Int32 × (Nat → Nat → Int32)) := match n with
  | 0 => none
  | n + 1 => (if y4 = 0 then some (y3, I) else (fX12_layBefore n y2 I).bind fun o794 => (if o794.1 < y3 then (if y1 < 0 ∨ 4 ≤ y1.toNatClampNeg then none else (fX12_isFlat n y2 (o794.2 80 y1.toNatClampNeg) o794.2).bind fun o797 => (if o797.1 = 0 then (fX12_nextTrips n y2 o797.2).bind fun o799 => fX12_trips_L57 n y1 y2 y3 o799.1 o799.2 else (fX12_trips_L95 n y1 y2 o794.1 0 o797.2).bind fun o805 => (fX12_nextTrips n y2 (mm_up o805 62 61 (o805 62 49))).bind fun o806 => fX12_trips_L57 n y1 y2 o794.1 o806.1 o806.2)) else (fX12_nextTrips n y2 o794.2).bind fun o807 => fX12_trips_L57 n y1 y2 y3 o807.1 o807.2))
def fX12_trips (n : Nat) (x1 : Int32) (I : Nat → Nat → Int32) : Option (Int32 × (Nat → Nat → Int32)) := (fX12_isBoard x1 (mm_up I 62 61 0)).bind fun o786 => (if o786 = 0 then some ((-1), (mm_up I 62 61 0)) else (fX12_nearLoads n (mm_up I 62 61 0)).bind fun o788 => (fX12_trips_L27 n x1 o788.1 1000000 0 o788.2).bind fun o791 => (fX12_layBefore n o788.1 o791).bind fun o792 => (fX12_trips_L57 n x1 o788.1 1000000 1 o792.2).bind fun o808 => (if o808.1 = 1000000 then some ((-1), o808.2) else some (o808.1, o808.2)))
set_option maxRecDepth 100000 in
set_option maxHeartbeats 4000000 in
theorem tlX12_trips_L27 (d : Nat) (Q : Option Value → mm_H → Prop) : ∀ (n : Nat) (y1 : Int32) (y2 : Int32) (y3 : Int32) (y4 : Int32) (I : Nat → Nat → Int32) (J : Nat → Nat → Int64) (rv sp rr w nw : Nat), ∀ (out : (Nat → Nat → Int32)), fX12_trips_L27 n y1 y2 y3 y4 I = some out → mm_T none (d + 3) 295 (48, [some (.ref 62), some (.int y1), some (.int y2), some (.int y3), none, none, none], []) (107, out, J, mm_rf rv sp rr w nw) Q → mm_T none (d + 3) 295 (27, [some (.ref 62), some (.int y1), some (.int y2), some (.int y3), some (.int y4), none, none], []) (107, I, J, mm_rf rv sp rr w nw) Q := by
  intro n
  induction n with
  | zero =>
    intro y1 y2 y3 y4 I J rv sp rr w nw out e k
    rw [fX12_trips_L27] at e; cases e
  | succ n ih =>
    intro y1 y2 y3 y4 I J rv sp rr w nw out e k
    rw [fX12_trips_L27] at e
    refine mm_T.seg (f' := (31, [some (.ref 62), some (.int y1), some (.int y2), some (.int y3), some (.int y4), none, none], [(.int 7), (.int y4)])) (h' := (107, I, J, mm_rf rv sp rr w nw)) 2 rfl ?_
    refine mm_T.br (c := y4 < 7) (a := ((34, [some (.ref 62), some (.int y1), some (.int y2), some (.int y3), some (.int y4), none, none], []), (107, I, J, mm_rf rv sp rr w nw))) (b := ((48, [some (.ref 62), some (.int y1), some (.int y2), some (.int y3), some (.int y4), none, none], []), (107, I, J, mm_rf rv sp rr w nw))) rfl (fun h789 => ?_) (fun h789 => ?_)
    · rw [if_pos h789] at e
      refine mm_T.seg (f' := (41, [some (.ref 62), some (.int y1), some (.int y2), some (.int y3), some (.int y4), none, none], [(.int 0), (.int y4), (.ref 89)])) (h' := (107, I, J, mm_rf rv sp rr w nw)) 4 rfl ?_
      by_cases h790 : y4 < 0 ∨ 7 ≤ y4.toNatClampNeg
      · rw [if_pos h790] at e; cases e
      rw [if_neg h790] at e
      refine mm_T.guard (y := ((42, [some (.ref 62), some (.int y1), some (.int y2), some (.int y3), some (.int y4), none, none], []), (107, (mm_up I 89 y4.toNatClampNeg 0), J, mm_rf rv sp rr w nw))) rfl h790 ?_
      refine mm_T.seg (f' := (27, [some (.ref 62), some (.int y1), some (.int y2), some (.int y3), some (.int (y4 + 1)), none, none], [])) (h' := (107, (mm_up I 89 y4.toNatClampNeg 0), J, mm_rf rv sp rr w nw)) 2 rfl ?_
      refine mm_T.mask [true, true, true, true, true, false, false] ?_
      exact ih y1 y2 y3 (y4 + 1) (mm_up I 89 y4.toNatClampNeg 0) J rv sp rr w nw out e k
    · rw [if_neg h789] at e
      cases e
      refine mm_T.mask [true, true, true, true, false, false, false] ?_
      exact k
set_option maxRecDepth 100000 in
set_option maxHeartbeats 4000000 in
theorem tlX12_trips_L95 (d : Nat) (Q : Option Value → mm_H → Prop) : ∀ (n : Nat) (y1 : Int32) (y2 : Int32) (y3 : Int32) (y6 : Int32) (I : Nat → Nat → Int32) (J : Nat → Nat → Int64) (rv sp rr w nw : Nat), ∀ (out : (Nat → Nat → Int32)), fX12_trips_L95 n y1 y2 y3 y6 I = some out → mm_T none (d + 3) 295 (138, [some (.ref 62), some (.int y1), some (.int y2), some (.int y3), none, none, none], []) (107, out, J, mm_rf rv sp rr w nw) Q → mm_T none (d + 3) 295 (95, [some (.ref 62), some (.int y1), some (.int y2), some (.int y3), none, none, some (.int y6)], []) (107, I, J, mm_rf rv sp rr w nw) Q := by
  intro n
  induction n with
  | zero =>
    intro y1 y2 y3 y6 I J rv sp rr w nw out e k
    rw [fX12_trips_L95] at e; cases e
  | succ n ih =>
    intro y1 y2 y3 y6 I J rv sp rr w nw out e k
    rw [fX12_trips_L95] at e
    refine mm_T.seg (f' := (101, [some (.ref 62), some (.int y1), some (.int y2), some (.int y3), none, none, some (.int y6)], [(.int (I 62 49)), (.int y6)])) (h' := (107, I, J, mm_rf rv sp rr w nw)) 3 rfl ?_
    refine mm_T.br (c := y6 < (I 62 49)) (a := ((104, [some (.ref 62), some (.int y1), some (.int y2), some (.int y3), none, none, some (.int y6)], []), (107, I, J, mm_rf rv sp rr w nw))) (b := ((138, [some (.ref 62), some (.int y1), some (.int y2), some (.int y3), none, none, some (.int y6)], []), (107, I, J, mm_rf rv sp rr w nw))) rfl (fun h800 => ?_) (fun h800 => ?_)
    · rw [if_pos h800] at e
      refine mm_T.seg (f' := (117, [some (.ref 62), some (.int y1), some (.int y2), some (.int y3), none, none, some (.int y6)], [(.int 1), (.int ((y2 >>> (y6 &&& 31)) &&& 1)), (.int y6), (.ref 88)])) (h' := (107, I, J, mm_rf rv sp rr w nw)) 9 rfl ?_
      refine mm_T.br (c := ((y2 >>> (y6 &&& 31)) &&& 1) = 1) (a := ((120, [some (.ref 62), some (.int y1), some (.int y2), some (.int y3), none, none, some (.int y6)], [(.int y6), (.ref 88)]), (107, I, J, mm_rf rv sp rr w nw))) (b := ((130, [some (.ref 62), some (.int y1), some (.int y2), some (.int y3), none, none, some (.int y6)], [(.int y6), (.ref 88)]), (107, I, J, mm_rf rv sp rr w nw))) rfl (fun h801 => ?_) (fun h801 => ?_)
      · rw [if_pos h801] at e
        refine mm_T.seg (f' := (126, [some (.ref 62), some (.int y1), some (.int y2), some (.int y3), none, none, some (.int y6)], [(.int y6), (.ref 89), (.int y6), (.ref 88)])) (h' := (107, I, J, mm_rf rv sp rr w nw)) 3 rfl ?_
        by_cases h802 : y6 < 0 ∨ 7 ≤ y6.toNatClampNeg
        · rw [if_pos h802] at e; cases e
        rw [if_neg h802] at e
        refine mm_T.guard (y := ((127, [some (.ref 62), some (.int y1), some (.int y2), some (.int y3), none, none, some (.int y6)], [(.int (I 89 y6.toNatClampNeg)), (.int y6), (.ref 88)]), (107, I, J, mm_rf rv sp rr w nw))) rfl h802 ?_
        refine mm_T.seg (f' := (131, [some (.ref 62), some (.int y1), some (.int y2), some (.int y3), none, none, some (.int y6)], [(.int (I 89 y6.toNatClampNeg)), (.int y6), (.ref 88)])) (h' := (107, I, J, mm_rf rv sp rr w nw)) 1 rfl ?_
        by_cases h803 : y6 < 0 ∨ 7 ≤ y6.toNatClampNeg
        · rw [if_pos h803] at e; cases e
        rw [if_neg h803] at e
        refine mm_T.guard (y := ((132, [some (.ref 62), some (.int y1), some (.int y2), some (.int y3), none, none, some (.int y6)], []), (107, (mm_up I 88 y6.toNatClampNeg (I 89 y6.toNatClampNeg)), J, mm_rf rv sp rr w nw))) rfl h803 ?_
        refine mm_T.seg (f' := (95, [some (.ref 62), some (.int y1), some (.int y2), some (.int y3), none, none, some (.int (y6 + 1))], [])) (h' := (107, (mm_up I 88 y6.toNatClampNeg (I 89 y6.toNatClampNeg)), J, mm_rf rv sp rr w nw)) 2 rfl ?_
        refine mm_T.mask [true, true, true, true, false, false, true] ?_
        exact ih y1 y2 y3 (y6 + 1) (mm_up I 88 y6.toNatClampNeg (I 89 y6.toNatClampNeg)) J rv sp rr w nw out e k
      · rw [if_neg h801] at e
        refine mm_T.seg (f' := (131, [some (.ref 62), some (.int y1), some (.int y2), some (.int y3), none, none, some (.int y6)], [(.int (-1)), (.int y6), (.ref 88)])) (h' := (107, I, J, mm_rf rv sp rr w nw)) 1 rfl ?_
        by_cases h804 : y6 < 0 ∨ 7 ≤ y6.toNatClampNeg
        · rw [if_pos h804] at e; cases e
        rw [if_neg h804] at e
        refine mm_T.guard (y := ((132, [some (.ref 62), some (.int y1), some (.int y2), some (.int y3), none, none, some (.int y6)], []), (107, (mm_up I 88 y6.toNatClampNeg (-1)), J, mm_rf rv sp rr w nw))) rfl h804 ?_
        refine mm_T.seg (f' := (95, [some (.ref 62), some (.int y1), some (.int y2), some (.int y3), none, none, some (.int (y6 + 1))], [])) (h' := (107, (mm_up I 88 y6.toNatClampNeg (-1)), J, mm_rf rv sp rr w nw)) 2 rfl ?_
        refine mm_T.mask [true, true, true, true, false, false, true] ?_
        exact ih y1 y2 y3 (y6 + 1) (mm_up I 88 y6.toNatClampNeg (-1)) J rv sp rr w nw out e k
    · rw [if_neg h800] at e
      cases e
      refine mm_T.mask [true, true, true, true, false, false, false] ?_
      exact k
set_option maxRecDepth 100000 in
set_option maxHeartbeats 4000000 in
theorem tlX12_trips_L57 (d : Nat) (Q : Option Value → mm_H → Prop) : ∀ (n : Nat) (y1 : Int32) (y2 : Int32) (y3 : Int32) (y4 : Int32) (I : Nat → Nat → Int32) (J : Nat → Nat → Int64) (rv sp rr w nw : Nat), ∀ (out : Int32 × (Nat → Nat → Int32)), fX12_trips_L57 n y1 y2 y3 y4 I = some out → mm_T none (d + 3) 295 (156, [none, none, none, some (.int out.1), none, none, none], []) (107, out.2, J, mm_rf rv sp rr w nw) Q → mm_T none (d + 3) 295 (57, [some (.ref 62), some (.int y1), some (.int y2), some (.int y3), some (.int y4), none, none], []) (107, I, J, mm_rf rv sp rr w nw) Q := by
  intro n
  induction n with
  | zero =>
    intro y1 y2 y3 y4 I J rv sp rr w nw out e k
    rw [fX12_trips_L57] at e; cases e
  | succ n ih =>
    intro y1 y2 y3 y4 I J rv sp rr w nw out e k
    rw [fX12_trips_L57] at e
    refine mm_T.seg (f' := (59, [some (.ref 62), some (.int y1), some (.int y2), some (.int y3), some (.int y4), none, none], [(.int y4)])) (h' := (107, I, J, mm_rf rv sp rr w nw)) 1 rfl ?_
    refine mm_T.br (c := y4 = 0) (a := ((156, [some (.ref 62), some (.int y1), some (.int y2), some (.int y3), some (.int y4), none, none], []), (107, I, J, mm_rf rv sp rr w nw))) (b := ((62, [some (.ref 62), some (.int y1), some (.int y2), some (.int y3), some (.int y4), none, none], []), (107, I, J, mm_rf rv sp rr w nw))) rfl (fun h793 => ?_) (fun h793 => ?_)
    · rw [if_pos h793] at e
      cases e
      refine mm_T.mask [false, false, false, true, false, false, false] ?_
      exact k
    · rw [if_neg h793] at e
      refine mm_T.seg (f' := (64, [some (.ref 62), some (.int y1), some (.int y2), some (.int y3), some (.int y4), none, none], [(.int y2), (.ref 62)])) (h' := (107, I, J, mm_rf rv sp rr w nw)) 2 rfl ?_
      obtain ⟨o794, eo794, e⟩ := mm_bind e
      refine mm_T.call (t := 294) (as := [(.ref 62), (.int y2)]) (f' := (67, [some (.ref 62), some (.int y1), some (.int y2), some (.int y3), some (.int y4), none, none], [])) rfl (tX12_layBefore (d + 2) n y2 I J rv sp rr w nw o794 eo794) (fun v h hq => ?_)
      obtain ⟨rfl, rfl⟩ := hq
      refine mm_T.seg (f' := (72, [some (.ref 62), some (.int y1), some (.int y2), some (.int y3), some (.int y4), some (.int o794.1), none], [(.int y3), (.int o794.1)])) (h' := (107, o794.2, J, mm_rf rv sp rr w nw)) 3 rfl ?_
      refine mm_T.br (c := o794.1 < y3) (a := ((75, [some (.ref 62), some (.int y1), some (.int y2), some (.int y3), some (.int y4), some (.int o794.1), none], []), (107, o794.2, J, mm_rf rv sp rr w nw))) (b := ((146, [some (.ref 62), some (.int y1), some (.int y2), some (.int y3), some (.int y4), some (.int o794.1), none], []), (107, o794.2, J, mm_rf rv sp rr w nw))) rfl (fun h795 => ?_) (fun h795 => ?_)
      · rw [if_pos h795] at e
        refine mm_T.seg (f' := (82, [some (.ref 62), some (.int y1), some (.int y2), some (.int y3), some (.int y4), some (.int o794.1), none], [(.int y1), (.ref 80), (.int y2), (.ref 62)])) (h' := (107, o794.2, J, mm_rf rv sp rr w nw)) 5 rfl ?_
        by_cases h796 : y1 < 0 ∨ 4 ≤ y1.toNatClampNeg
        · rw [if_pos h796] at e; cases e
        rw [if_neg h796] at e
        refine mm_T.guard (y := ((83, [some (.ref 62), some (.int y1), some (.int y2), some (.int y3), some (.int y4), some (.int o794.1), none], [(.int (o794.2 80 y1.toNatClampNeg)), (.int y2), (.ref 62)]), (107, o794.2, J, mm_rf rv sp rr w nw))) rfl h796 ?_
        obtain ⟨o797, eo797, e⟩ := mm_bind e
        refine mm_T.call (t := 292) (as := [(.ref 62), (.int y2), (.int (o794.2 80 y1.toNatClampNeg))]) (f' := (86, [some (.ref 62), some (.int y1), some (.int y2), some (.int y3), some (.int y4), some (.int o794.1), none], [])) rfl (tX12_isFlat (d + 2) n y2 (o794.2 80 y1.toNatClampNeg) o794.2 J rv sp rr w nw o797 eo797) (fun v h hq => ?_)
        obtain ⟨rfl, rfl⟩ := hq
        refine mm_T.br (c := o797.1 = 0) (a := ((146, [some (.ref 62), some (.int y1), some (.int y2), some (.int y3), some (.int y4), some (.int o794.1), none], []), (107, o797.2, J, mm_rf rv sp rr w nw))) (b := ((89, [some (.ref 62), some (.int y1), some (.int y2), some (.int y3), some (.int y4), some (.int o794.1), none], []), (107, o797.2, J, mm_rf rv sp rr w nw))) rfl (fun h798 => ?_) (fun h798 => ?_)
        · rw [if_pos h798] at e
          refine mm_T.seg (f' := (148, [some (.ref 62), some (.int y1), some (.int y2), some (.int y3), some (.int y4), some (.int o794.1), none], [(.int y2), (.ref 62)])) (h' := (107, o797.2, J, mm_rf rv sp rr w nw)) 2 rfl ?_
          obtain ⟨o799, eo799, e⟩ := mm_bind e
          refine mm_T.call (t := 293) (as := [(.ref 62), (.int y2)]) (f' := (151, [some (.ref 62), some (.int y1), some (.int y2), some (.int y3), some (.int y4), some (.int o794.1), none], [])) rfl (tX12_nextTrips (d + 1) n y2 o797.2 J rv sp rr w nw o799 eo799) (fun v h hq => ?_)
          obtain ⟨rfl, rfl⟩ := hq
          refine mm_T.seg (f' := (57, [some (.ref 62), some (.int y1), some (.int y2), some (.int y3), some (.int o799.1), some (.int o794.1), none], [])) (h' := (107, o799.2, J, mm_rf rv sp rr w nw)) 2 rfl ?_
          refine mm_T.mask [true, true, true, true, true, false, false] ?_
          exact ih y1 y2 y3 o799.1 o799.2 J rv sp rr w nw out e k
        · rw [if_neg h798] at e
          refine mm_T.seg (f' := (95, [some (.ref 62), some (.int y1), some (.int y2), some (.int o794.1), some (.int y4), some (.int o794.1), some (.int 0)], [])) (h' := (107, o797.2, J, mm_rf rv sp rr w nw)) 4 rfl ?_
          refine mm_T.mask [true, true, true, true, false, false, true] ?_
          obtain ⟨o805, eo805, e⟩ := mm_bind e
          refine tlX12_trips_L95 d _ n y1 y2 o794.1 0 o797.2 J rv sp rr w nw o805 eo805 ?_
          refine mm_T.seg (f' := (148, [some (.ref 62), some (.int y1), some (.int y2), some (.int o794.1), none, none, none], [(.int y2), (.ref 62)])) (h' := (107, (mm_up o805 62 61 (o805 62 49)), J, mm_rf rv sp rr w nw)) 6 rfl ?_
          obtain ⟨o806, eo806, e⟩ := mm_bind e
          refine mm_T.call (t := 293) (as := [(.ref 62), (.int y2)]) (f' := (151, [some (.ref 62), some (.int y1), some (.int y2), some (.int o794.1), none, none, none], [])) rfl (tX12_nextTrips (d + 1) n y2 (mm_up o805 62 61 (o805 62 49)) J rv sp rr w nw o806 eo806) (fun v h hq => ?_)
          obtain ⟨rfl, rfl⟩ := hq
          refine mm_T.seg (f' := (57, [some (.ref 62), some (.int y1), some (.int y2), some (.int o794.1), some (.int o806.1), none, none], [])) (h' := (107, o806.2, J, mm_rf rv sp rr w nw)) 2 rfl ?_
          refine mm_T.mask [true, true, true, true, true, false, false] ?_
          exact ih y1 y2 o794.1 o806.1 o806.2 J rv sp rr w nw out e k
      · rw [if_neg h795] at e
        refine mm_T.seg (f' := (148, [some (.ref 62), some (.int y1), some (.int y2), some (.int y3), some (.int y4), some (.int o794.1), none], [(.int y2), (.ref 62)])) (h' := (107, o794.2, J, mm_rf rv sp rr w nw)) 2 rfl ?_
        obtain ⟨o807, eo807, e⟩ := mm_bind e
        refine mm_T.call (t := 293) (as := [(.ref 62), (.int y2)]) (f' := (151, [some (.ref 62), some (.int y1), some (.int y2), some (.int y3), some (.int y4), some (.int o794.1), none], [])) rfl (tX12_nextTrips (d + 1) n y2 o794.2 J rv sp rr w nw o807 eo807) (fun v h hq => ?_)
        obtain ⟨rfl, rfl⟩ := hq
        refine mm_T.seg (f' := (57, [some (.ref 62), some (.int y1), some (.int y2), some (.int y3), some (.int o807.1), some (.int o794.1), none], [])) (h' := (107, o807.2, J, mm_rf rv sp rr w nw)) 2 rfl ?_
        refine mm_T.mask [true, true, true, true, true, false, false] ?_
        exact ih y1 y2 y3 o807.1 o807.2 J rv sp rr w nw out e k
set_option maxRecDepth 100000 in
set_option maxHeartbeats 4000000 in
theorem tX12_trips (d n : Nat) (x1 : Int32) (I : Nat → Nat → Int32) (J : Nat → Nat → Int64) (rv sp rr w nw : Nat) (out : Int32 × (Nat → Nat → Int32)) (e : fX12_trips n x1 I = some out) : mm_T none (d + 3) 295 (mm_ent 295 [(.ref 62), (.int x1)]) (107, I, J, mm_rf rv sp rr w nw) (fun v h => v = some (.int out.1) ∧ h = (107, out.2, J, mm_rf rv sp rr w nw)) := by
  unfold fX12_trips at e
  refine mm_T.seg (f' := (7, [some (.ref 62), some (.int x1), none, none, none, none, none], [(.int x1), (.ref 62)])) (h' := (107, (mm_up I 62 61 0), J, mm_rf rv sp rr w nw)) 5 rfl ?_
  obtain ⟨o786, eo786, e⟩ := mm_bind e
  refine mm_T.call (t := 253) (as := [(.ref 62), (.int x1)]) (f' := (10, [some (.ref 62), some (.int x1), none, none, none, none, none], [])) rfl (tX12_isBoard (d + 1) x1 (mm_up I 62 61 0) J rv sp rr w nw o786 eo786) (fun v h hq => ?_)
  obtain ⟨rfl, rfl⟩ := hq
  refine mm_T.br (c := o786 = 0) (a := ((13, [some (.ref 62), some (.int x1), none, none, none, none, none], []), (107, (mm_up I 62 61 0), J, mm_rf rv sp rr w nw))) (b := ((15, [some (.ref 62), some (.int x1), none, none, none, none, none], []), (107, (mm_up I 62 61 0), J, mm_rf rv sp rr w nw))) rfl (fun h787 => ?_) (fun h787 => ?_)
  · rw [if_pos h787] at e
    refine mm_T.seg (f' := (14, [some (.ref 62), some (.int x1), none, none, none, none, none], [(.int (-1))])) (h' := (107, (mm_up I 62 61 0), J, mm_rf rv sp rr w nw)) 1 rfl ?_
    cases e
    exact mm_T.ret rfl ⟨rfl, rfl⟩
  · rw [if_neg h787] at e
    refine mm_T.seg (f' := (16, [some (.ref 62), some (.int x1), none, none, none, none, none], [(.ref 62)])) (h' := (107, (mm_up I 62 61 0), J, mm_rf rv sp rr w nw)) 1 rfl ?_
    obtain ⟨o788, eo788, e⟩ := mm_bind e
    refine mm_T.call (t := 291) (as := [(.ref 62)]) (f' := (19, [some (.ref 62), some (.int x1), none, none, none, none, none], [])) rfl (tX12_nearLoads (d + 0) n (mm_up I 62 61 0) J rv sp rr w nw o788 eo788) (fun v h hq => ?_)
    obtain ⟨rfl, rfl⟩ := hq
    refine mm_T.seg (f' := (27, [some (.ref 62), some (.int x1), some (.int o788.1), some (.int 1000000), some (.int 0), none, none], [])) (h' := (107, o788.2, J, mm_rf rv sp rr w nw)) 5 rfl ?_
    refine mm_T.mask [true, true, true, true, true, false, false] ?_
    obtain ⟨o791, eo791, e⟩ := mm_bind e
    refine tlX12_trips_L27 d _ n x1 o788.1 1000000 0 o788.2 J rv sp rr w nw o791 eo791 ?_
    refine mm_T.seg (f' := (50, [some (.ref 62), some (.int x1), some (.int o788.1), some (.int 1000000), none, none, none], [(.int o788.1), (.ref 62)])) (h' := (107, o791, J, mm_rf rv sp rr w nw)) 2 rfl ?_
    obtain ⟨o792, eo792, e⟩ := mm_bind e
    refine mm_T.call (t := 294) (as := [(.ref 62), (.int o788.1)]) (f' := (53, [some (.ref 62), some (.int x1), some (.int o788.1), some (.int 1000000), none, none, none], [])) rfl (tX12_layBefore (d + 2) n o788.1 o791 J rv sp rr w nw o792 eo792) (fun v h hq => ?_)
    obtain ⟨rfl, rfl⟩ := hq
    refine mm_T.seg (f' := (57, [some (.ref 62), some (.int x1), some (.int o788.1), some (.int 1000000), some (.int 1), none, none], [])) (h' := (107, o792.2, J, mm_rf rv sp rr w nw)) 3 rfl ?_
    refine mm_T.mask [true, true, true, true, true, false, false] ?_
    obtain ⟨o808, eo808, e⟩ := mm_bind e
    refine tlX12_trips_L57 d _ n x1 o788.1 1000000 1 o792.2 J rv sp rr w nw o808 eo808 ?_
    refine mm_T.seg (f' := (160, [none, none, none, some (.int o808.1), none, none, none], [(.int 1000000), (.int o808.1)])) (h' := (107, o808.2, J, mm_rf rv sp rr w nw)) 2 rfl ?_
    refine mm_T.br (c := o808.1 = 1000000) (a := ((163, [none, none, none, some (.int o808.1), none, none, none], []), (107, o808.2, J, mm_rf rv sp rr w nw))) (b := ((167, [none, none, none, some (.int o808.1), none, none, none], []), (107, o808.2, J, mm_rf rv sp rr w nw))) rfl (fun h809 => ?_) (fun h809 => ?_)
    · rw [if_pos h809] at e
      refine mm_T.seg (f' := (168, [none, none, none, some (.int o808.1), none, none, none], [(.int (-1))])) (h' := (107, o808.2, J, mm_rf rv sp rr w nw)) 2 rfl ?_
      cases e
      exact mm_T.ret rfl ⟨rfl, rfl⟩
    · rw [if_neg h809] at e
      refine mm_T.seg (f' := (168, [none, none, none, some (.int o808.1), none, none, none], [(.int o808.1)])) (h' := (107, o808.2, J, mm_rf rv sp rr w nw)) 1 rfl ?_
      cases e
      exact mm_T.ret rfl ⟨rfl, rfl⟩
def fX12_stowBy_L17 (n : Nat) (y1 : Int32) (y3 : Int32) (y4 : Int32) (y5 : Int32) (I : Nat → Nat → Int32) : Option ((Int32 ⊕ (Int32)) × (Nat → Nat → Int32)) := match n with
  | 0 => none
  | n + 1 => (if y5 < 0 then some (.inr y4, I) else (if ((y1 >>> (y5 &&& 31)) &&& 1) = 0 then (if 0 < (y3 - y3 / 4 * 4) then some (.inl (-1), I) else fX12_stowBy_L17 n y1 (y3 / 4) y4 (y5 + (-1)) I) else (if (y3 - y3 / 4 * 4) < (I 62 48) then (if (4 + (y3 - y3 / 4 * 4)) < 0 ∨ 28 ≤ (4 + (y3 - y3 / 4 * 4)).toNatClampNeg then none else (if 0 < (I 84 (4 + (y3 - y3 / 4 * 4)).toNatClampNeg) then some (.inl (-1), I) else (if (20 + y5) < 0 ∨ 28 ≤ (20 + y5).toNatClampNeg then none else fX12_stowBy_L17 n y1 (y3 / 4) (y4 ||| (1 <<< ((y3 - y3 / 4 * 4) &&& 31))) (y5 + (-1)) (mm_up I 85 (20 + y5).toNatClampNeg (y3 - y3 / 4 * 4))))) else some (.inl (-1), I))))
def fX12_stowBy_L100 (n : Nat) (y4 : Int32) (y5 : Int32) (I : Nat → Nat → Int32) : Option ((Int32 ⊕ (Unit))) := match n with
  | 0 => none
  | n + 1 => (if y5 < (I 62 48) then (if ((y4 >>> (y5 &&& 31)) &&& 1) = 1 then (fX12_burdenOf n y5 I).bind fun o821 => (if y5 < 0 ∨ 4 ≤ y5.toNatClampNeg then none else (if (I 80 y5.toNatClampNeg) < o821 then some (.inl (-1)) else fX12_stowBy_L100 n y4 (y5 + 1) I)) else fX12_stowBy_L100 n y4 (y5 + 1) I) else some (.inr ()))
def fX12_stowBy (n : Nat) (x1 : Int32) (x2 : Int32) (I : Nat → Nat → Int32) : Option (Int32 × (Nat → Nat → Int32)) := (fX12_fill n I).bind fun o810 => (fX12_stowBy_L17 n x1 x2 0 ((o810 62 49) - 1) o810).bind fun o818 => (match o818 with | (.inl r, s0) => some (r, s0) | (.inr y, s0) => (fX12_stowBy_L100 n y 0 s0).bind fun o824 => (match o824 with | .inl r => some (r, s0) | .inr y => some (y, s0)))
set_option maxRecDepth 100000 in
set_option maxHeartbeats 4000000 in
theorem tlX12_stowBy_L17 (d : Nat) (Q : Option Value → mm_H → Prop) : ∀ (n : Nat) (y1 : Int32) (y3 : Int32) (y4 : Int32) (y5 : Int32) (I : Nat → Nat → Int32) (J : Nat → Nat → Int64) (rv sp rr w nw : Nat), ∀ (out : (Int32 ⊕ (Int32)) × (Nat → Nat → Int32)), fX12_stowBy_L17 n y1 y3 y4 y5 I = some out → (∀ (r : Int32) (s0 : Nat → Nat → Int32), out = (.inl r, s0) → Q (some (.int r)) (107, s0, J, mm_rf rv sp rr w nw)) → (∀ (y : Int32) (s0 : Nat → Nat → Int32), out = (.inr y, s0) → mm_T none (d + 1) 296 (97, [some (.ref 62), none, none, none, some (.int y), none, none], []) (107, s0, J, mm_rf rv sp rr w nw) Q) → mm_T none (d + 1) 296 (17, [some (.ref 62), some (.int y1), none, some (.int y3), some (.int y4), some (.int y5), none], []) (107, I, J, mm_rf rv sp rr w nw) Q := by
  intro n
  induction n with
  | zero =>
    intro y1 y3 y4 y5 I J rv sp rr w nw out e kr ke
    rw [fX12_stowBy_L17] at e; cases e
  | succ n ih =>
    intro y1 y3 y4 y5 I J rv sp rr w nw out e kr ke
    rw [fX12_stowBy_L17] at e
    refine mm_T.seg (f' := (19, [some (.ref 62), some (.int y1), none, some (.int y3), some (.int y4), some (.int y5), none], [(.int y5)])) (h' := (107, I, J, mm_rf rv sp rr w nw)) 1 rfl ?_
    refine mm_T.br (c := y5 < 0) (a := ((97, [some (.ref 62), some (.int y1), none, some (.int y3), some (.int y4), some (.int y5), none], []), (107, I, J, mm_rf rv sp rr w nw))) (b := ((22, [some (.ref 62), some (.int y1), none, some (.int y3), some (.int y4), some (.int y5), none], []), (107, I, J, mm_rf rv sp rr w nw))) rfl (fun h811 => ?_) (fun h811 => ?_)
    · rw [if_pos h811] at e
      cases e
      refine mm_T.mask [true, false, false, false, true, false, false] ?_
      exact ke _ _ rfl
    · rw [if_neg h811] at e
      refine mm_T.seg (f' := (37, [some (.ref 62), some (.int y1), none, some (.int (y3 / 4)), some (.int y4), some (.int y5), some (.int (y3 - y3 / 4 * 4))], [(.int ((y1 >>> (y5 &&& 31)) &&& 1))])) (h' := (107, I, J, mm_rf rv sp rr w nw)) 13 rfl ?_
      refine mm_T.br (c := ((y1 >>> (y5 &&& 31)) &&& 1) = 0) (a := ((40, [some (.ref 62), some (.int y1), none, some (.int (y3 / 4)), some (.int y4), some (.int y5), some (.int (y3 - y3 / 4 * 4))], []), (107, I, J, mm_rf rv sp rr w nw))) (b := ((47, [some (.ref 62), some (.int y1), none, some (.int (y3 / 4)), some (.int y4), some (.int y5), some (.int (y3 - y3 / 4 * 4))], []), (107, I, J, mm_rf rv sp rr w nw))) rfl (fun h812 => ?_) (fun h812 => ?_)
      · rw [if_pos h812] at e
        refine mm_T.seg (f' := (42, [some (.ref 62), some (.int y1), none, some (.int (y3 / 4)), some (.int y4), some (.int y5), some (.int (y3 - y3 / 4 * 4))], [(.int (y3 - y3 / 4 * 4))])) (h' := (107, I, J, mm_rf rv sp rr w nw)) 1 rfl ?_
        refine mm_T.br (c := 0 < (y3 - y3 / 4 * 4)) (a := ((45, [some (.ref 62), some (.int y1), none, some (.int (y3 / 4)), some (.int y4), some (.int y5), some (.int (y3 - y3 / 4 * 4))], []), (107, I, J, mm_rf rv sp rr w nw))) (b := ((91, [some (.ref 62), some (.int y1), none, some (.int (y3 / 4)), some (.int y4), some (.int y5), some (.int (y3 - y3 / 4 * 4))], []), (107, I, J, mm_rf rv sp rr w nw))) rfl (fun h813 => ?_) (fun h813 => ?_)
        · rw [if_pos h813] at e
          refine mm_T.seg (f' := (46, [some (.ref 62), some (.int y1), none, some (.int (y3 / 4)), some (.int y4), some (.int y5), some (.int (y3 - y3 / 4 * 4))], [(.int (-1))])) (h' := (107, I, J, mm_rf rv sp rr w nw)) 1 rfl ?_
          cases e
          exact mm_T.ret rfl (kr _ _ rfl)
        · rw [if_neg h813] at e
          refine mm_T.seg (f' := (17, [some (.ref 62), some (.int y1), none, some (.int (y3 / 4)), some (.int y4), some (.int (y5 + (-1))), some (.int (y3 - y3 / 4 * 4))], [])) (h' := (107, I, J, mm_rf rv sp rr w nw)) 2 rfl ?_
          refine mm_T.mask [true, true, false, true, true, true, false] ?_
          exact ih y1 (y3 / 4) y4 (y5 + (-1)) I J rv sp rr w nw out e kr ke
      · rw [if_neg h812] at e
        refine mm_T.seg (f' := (53, [some (.ref 62), some (.int y1), none, some (.int (y3 / 4)), some (.int y4), some (.int y5), some (.int (y3 - y3 / 4 * 4))], [(.int (I 62 48)), (.int (y3 - y3 / 4 * 4))])) (h' := (107, I, J, mm_rf rv sp rr w nw)) 3 rfl ?_
        refine mm_T.br (c := (y3 - y3 / 4 * 4) < (I 62 48)) (a := ((56, [some (.ref 62), some (.int y1), none, some (.int (y3 / 4)), some (.int y4), some (.int y5), some (.int (y3 - y3 / 4 * 4))], []), (107, I, J, mm_rf rv sp rr w nw))) (b := ((68, [some (.ref 62), some (.int y1), none, some (.int (y3 / 4)), some (.int y4), some (.int y5), some (.int (y3 - y3 / 4 * 4))], []), (107, I, J, mm_rf rv sp rr w nw))) rfl (fun h814 => ?_) (fun h814 => ?_)
        · rw [if_pos h814] at e
          refine mm_T.seg (f' := (64, [some (.ref 62), some (.int y1), none, some (.int (y3 / 4)), some (.int y4), some (.int y5), some (.int (y3 - y3 / 4 * 4))], [(.int (4 + (y3 - y3 / 4 * 4))), (.ref 84)])) (h' := (107, I, J, mm_rf rv sp rr w nw)) 5 rfl ?_
          by_cases h815 : (4 + (y3 - y3 / 4 * 4)) < 0 ∨ 28 ≤ (4 + (y3 - y3 / 4 * 4)).toNatClampNeg
          · rw [if_pos h815] at e; cases e
          rw [if_neg h815] at e
          refine mm_T.guard (y := ((65, [some (.ref 62), some (.int y1), none, some (.int (y3 / 4)), some (.int y4), some (.int y5), some (.int (y3 - y3 / 4 * 4))], [(.int (I 84 (4 + (y3 - y3 / 4 * 4)).toNatClampNeg))]), (107, I, J, mm_rf rv sp rr w nw))) rfl h815 ?_
          refine mm_T.br (c := 0 < (I 84 (4 + (y3 - y3 / 4 * 4)).toNatClampNeg)) (a := ((68, [some (.ref 62), some (.int y1), none, some (.int (y3 / 4)), some (.int y4), some (.int y5), some (.int (y3 - y3 / 4 * 4))], []), (107, I, J, mm_rf rv sp rr w nw))) (b := ((70, [some (.ref 62), some (.int y1), none, some (.int (y3 / 4)), some (.int y4), some (.int y5), some (.int (y3 - y3 / 4 * 4))], []), (107, I, J, mm_rf rv sp rr w nw))) rfl (fun h816 => ?_) (fun h816 => ?_)
          · rw [if_pos h816] at e
            refine mm_T.seg (f' := (69, [some (.ref 62), some (.int y1), none, some (.int (y3 / 4)), some (.int y4), some (.int y5), some (.int (y3 - y3 / 4 * 4))], [(.int (-1))])) (h' := (107, I, J, mm_rf rv sp rr w nw)) 1 rfl ?_
            cases e
            exact mm_T.ret rfl (kr _ _ rfl)
          · rw [if_neg h816] at e
            refine mm_T.seg (f' := (81, [some (.ref 62), some (.int y1), none, some (.int (y3 / 4)), some (.int y4), some (.int y5), some (.int (y3 - y3 / 4 * 4))], [(.int (y3 - y3 / 4 * 4)), (.int (20 + y5)), (.ref 85)])) (h' := (107, I, J, mm_rf rv sp rr w nw)) 6 rfl ?_
            by_cases h817 : (20 + y5) < 0 ∨ 28 ≤ (20 + y5).toNatClampNeg
            · rw [if_pos h817] at e; cases e
            rw [if_neg h817] at e
            refine mm_T.guard (y := ((82, [some (.ref 62), some (.int y1), none, some (.int (y3 / 4)), some (.int y4), some (.int y5), some (.int (y3 - y3 / 4 * 4))], []), (107, (mm_up I 85 (20 + y5).toNatClampNeg (y3 - y3 / 4 * 4)), J, mm_rf rv sp rr w nw))) rfl h817 ?_
            refine mm_T.seg (f' := (17, [some (.ref 62), some (.int y1), none, some (.int (y3 / 4)), some (.int (y4 ||| (1 <<< ((y3 - y3 / 4 * 4) &&& 31)))), some (.int (y5 + (-1))), some (.int (y3 - y3 / 4 * 4))], [])) (h' := (107, (mm_up I 85 (20 + y5).toNatClampNeg (y3 - y3 / 4 * 4)), J, mm_rf rv sp rr w nw)) 8 rfl ?_
            refine mm_T.mask [true, true, false, true, true, true, false] ?_
            exact ih y1 (y3 / 4) (y4 ||| (1 <<< ((y3 - y3 / 4 * 4) &&& 31))) (y5 + (-1)) (mm_up I 85 (20 + y5).toNatClampNeg (y3 - y3 / 4 * 4)) J rv sp rr w nw out e kr ke
        · rw [if_neg h814] at e
          refine mm_T.seg (f' := (69, [some (.ref 62), some (.int y1), none, some (.int (y3 / 4)), some (.int y4), some (.int y5), some (.int (y3 - y3 / 4 * 4))], [(.int (-1))])) (h' := (107, I, J, mm_rf rv sp rr w nw)) 1 rfl ?_
          cases e
          exact mm_T.ret rfl (kr _ _ rfl)
set_option maxRecDepth 100000 in
set_option maxHeartbeats 4000000 in
theorem tlX12_stowBy_L100 (d : Nat) (Q : Option Value → mm_H → Prop) : ∀ (n : Nat) (y4 : Int32) (y5 : Int32) (I : Nat → Nat → Int32) (J : Nat → Nat → Int64) (rv sp rr w nw : Nat), ∀ (out : (Int32 ⊕ (Unit))), fX12_stowBy_L100 n y4 y5 I = some out → (∀ (r : Int32), out = .inl r → Q (some (.int r)) (107, I, J, mm_rf rv sp rr w nw)) → (∀ (y : Unit), out = .inr y → mm_T none (d + 1) 296 (144, [none, none, none, none, some (.int y4), none, none], []) (107, I, J, mm_rf rv sp rr w nw) Q) → mm_T none (d + 1) 296 (100, [some (.ref 62), none, none, none, some (.int y4), some (.int y5), none], []) (107, I, J, mm_rf rv sp rr w nw) Q := by
  intro n
  induction n with
  | zero =>
    intro y4 y5 I J rv sp rr w nw out e kr ke
    rw [fX12_stowBy_L100] at e; cases e
  | succ n ih =>
    intro y4 y5 I J rv sp rr w nw out e kr ke
    rw [fX12_stowBy_L100] at e
    refine mm_T.seg (f' := (106, [some (.ref 62), none, none, none, some (.int y4), some (.int y5), none], [(.int (I 62 48)), (.int y5)])) (h' := (107, I, J, mm_rf rv sp rr w nw)) 3 rfl ?_
    refine mm_T.br (c := y5 < (I 62 48)) (a := ((109, [some (.ref 62), none, none, none, some (.int y4), some (.int y5), none], []), (107, I, J, mm_rf rv sp rr w nw))) (b := ((144, [some (.ref 62), none, none, none, some (.int y4), some (.int y5), none], []), (107, I, J, mm_rf rv sp rr w nw))) rfl (fun h819 => ?_) (fun h819 => ?_)
    · rw [if_pos h819] at e
      refine mm_T.seg (f' := (117, [some (.ref 62), none, none, none, some (.int y4), some (.int y5), none], [(.int 1), (.int ((y4 >>> (y5 &&& 31)) &&& 1))])) (h' := (107, I, J, mm_rf rv sp rr w nw)) 6 rfl ?_
      refine mm_T.br (c := ((y4 >>> (y5 &&& 31)) &&& 1) = 1) (a := ((120, [some (.ref 62), none, none, none, some (.int y4), some (.int y5), none], []), (107, I, J, mm_rf rv sp rr w nw))) (b := ((138, [some (.ref 62), none, none, none, some (.int y4), some (.int y5), none], []), (107, I, J, mm_rf rv sp rr w nw))) rfl (fun h820 => ?_) (fun h820 => ?_)
      · rw [if_pos h820] at e
        refine mm_T.seg (f' := (123, [some (.ref 62), none, none, none, some (.int y4), some (.int y5), none], [(.int y5), (.ref 62)])) (h' := (107, I, J, mm_rf rv sp rr w nw)) 2 rfl ?_
        obtain ⟨o821, eo821, e⟩ := mm_bind e
        refine mm_T.call (t := 240) (as := [(.ref 62), (.int y5)]) (f' := (126, [some (.ref 62), none, none, none, some (.int y4), some (.int y5), none], [])) rfl (tX12_burdenOf (d + 0) n y5 I J rv sp rr w nw o821 eo821) (fun v h hq => ?_)
        obtain ⟨rfl, rfl⟩ := hq
        refine mm_T.seg (f' := (132, [some (.ref 62), none, none, none, some (.int y4), some (.int y5), none], [(.int y5), (.ref 80), (.int o821)])) (h' := (107, I, J, mm_rf rv sp rr w nw)) 3 rfl ?_
        by_cases h822 : y5 < 0 ∨ 4 ≤ y5.toNatClampNeg
        · rw [if_pos h822] at e; cases e
        rw [if_neg h822] at e
        refine mm_T.guard (y := ((133, [some (.ref 62), none, none, none, some (.int y4), some (.int y5), none], [(.int (I 80 y5.toNatClampNeg)), (.int o821)]), (107, I, J, mm_rf rv sp rr w nw))) rfl h822 ?_
        refine mm_T.br (c := (I 80 y5.toNatClampNeg) < o821) (a := ((136, [some (.ref 62), none, none, none, some (.int y4), some (.int y5), none], []), (107, I, J, mm_rf rv sp rr w nw))) (b := ((138, [some (.ref 62), none, none, none, some (.int y4), some (.int y5), none], []), (107, I, J, mm_rf rv sp rr w nw))) rfl (fun h823 => ?_) (fun h823 => ?_)
        · rw [if_pos h823] at e
          refine mm_T.seg (f' := (137, [some (.ref 62), none, none, none, some (.int y4), some (.int y5), none], [(.int (-1))])) (h' := (107, I, J, mm_rf rv sp rr w nw)) 1 rfl ?_
          cases e
          exact mm_T.ret rfl (kr _ rfl)
        · rw [if_neg h823] at e
          refine mm_T.seg (f' := (100, [some (.ref 62), none, none, none, some (.int y4), some (.int (y5 + 1)), none], [])) (h' := (107, I, J, mm_rf rv sp rr w nw)) 2 rfl ?_
          refine mm_T.mask [true, false, false, false, true, true, false] ?_
          exact ih y4 (y5 + 1) I J rv sp rr w nw out e kr ke
      · rw [if_neg h820] at e
        refine mm_T.seg (f' := (100, [some (.ref 62), none, none, none, some (.int y4), some (.int (y5 + 1)), none], [])) (h' := (107, I, J, mm_rf rv sp rr w nw)) 2 rfl ?_
        refine mm_T.mask [true, false, false, false, true, true, false] ?_
        exact ih y4 (y5 + 1) I J rv sp rr w nw out e kr ke
    · rw [if_neg h819] at e
      cases e
      refine mm_T.mask [false, false, false, false, true, false, false] ?_
      exact ke _ rfl
set_option maxRecDepth 100000 in
set_option maxHeartbeats 4000000 in
theorem tX12_stowBy (d n : Nat) (x1 : Int32) (x2 : Int32) (I : Nat → Nat → Int32) (J : Nat → Nat → Int64) (rv sp rr w nw : Nat) (out : Int32 × (Nat → Nat → Int32)) (e : fX12_stowBy n x1 x2 I = some out) : mm_T none (d + 1) 296 (mm_ent 296 [(.ref 62), (.int x1), (.int x2)]) (107, I, J, mm_rf rv sp rr w nw) (fun v h => v = some (.int out.1) ∧ h = (107, out.2, J, mm_rf rv sp rr w nw)) := by
  unfold fX12_stowBy at e
  refine mm_T.seg (f' := (1, [some (.ref 62), some (.int x1), some (.int x2), none, none, none, none], [(.ref 62)])) (h' := (107, I, J, mm_rf rv sp rr w nw)) 1 rfl ?_
  obtain ⟨o810, eo810, e⟩ := mm_bind e
  refine mm_T.call (t := 256) (as := [(.ref 62)]) (f' := (4, [some (.ref 62), some (.int x1), some (.int x2), none, none, none, none], [])) rfl (tX12_fill (d + 0) n I J rv sp rr w nw o810 eo810) (fun v h hq => ?_)
  obtain ⟨rfl, rfl⟩ := hq
  refine mm_T.seg (f' := (17, [some (.ref 62), some (.int x1), some (.int x2), some (.int x2), some (.int 0), some (.int ((o810 62 49) - 1)), none], [])) (h' := (107, o810, J, mm_rf rv sp rr w nw)) 9 rfl ?_
  refine mm_T.mask [true, true, false, true, true, true, false] ?_
  obtain ⟨o818, eo818, e⟩ := mm_bind e
  rcases o818 with ⟨r | y, s0⟩
  · cases e
    refine tlX12_stowBy_L17 d _ n x1 x2 0 ((o810 62 49) - 1) o810 J rv sp rr w nw (.inl r, s0) eo818 (fun z z0 hz => ?_) (fun z z0 hz => ?_)
    · cases hz; exact ⟨rfl, rfl⟩
    · cases hz
  · refine tlX12_stowBy_L17 d _ n x1 x2 0 ((o810 62 49) - 1) o810 J rv sp rr w nw (.inr y, s0) eo818 (fun z z0 hz => ?_) (fun z z0 hz => ?_)
    · cases hz
    · cases hz
      refine mm_T.seg (f' := (100, [some (.ref 62), none, none, none, some (.int y), some (.int 0), none], [])) (h' := (107, s0, J, mm_rf rv sp rr w nw)) 2 rfl ?_
      refine mm_T.mask [true, false, false, false, true, true, false] ?_
      obtain ⟨o824, eo824, e⟩ := mm_bind e
      rcases o824 with r | y
      · cases e
        refine tlX12_stowBy_L100 d _ n y 0 s0 J rv sp rr w nw (.inl r) eo824 (fun z hz => ?_) (fun z hz => ?_)
        · cases hz; exact ⟨rfl, rfl⟩
        · cases hz
      · refine tlX12_stowBy_L100 d _ n y 0 s0 J rv sp rr w nw (.inr y) eo824 (fun z hz => ?_) (fun z hz => ?_)
        · cases hz
        · cases hz
          refine mm_T.seg (f' := (146, [none, none, none, none, some (.int y), none, none], [(.int y)])) (h' := (107, s0, J, mm_rf rv sp rr w nw)) 1 rfl ?_
          cases e
          exact mm_T.ret rfl ⟨rfl, rfl⟩
