set_option maxRecDepth 100000 in
set_option maxHeartbeats 4000000 in
theorem tlX12_coolest_L34 (d : Nat) (Q : Option Value → mm_H → Prop) : ∀ (n : Nat) (y1 : Int32) (y2 : Int32) (y3 : Int32) (y4 : Int32) (y5 : Int32) (I : Nat → Nat → Int32) (J : Nat → Nat → Int64) (rv sp rr w nw : Nat), ∀ (out : Int32 × Int32 × (Nat → Nat → Int32)), fX12_coolest_L34 n y1 y2 y3 y4 y5 I = some out → mm_T none (d + 5) 286 (126, [none, none, some (.int y2), some (.int out.1), some (.int out.2.1), none, none], []) (107, out.2.2, J, mm_rf rv sp rr w nw) Q → mm_T none (d + 5) 286 (34, [some (.ref 62), some (.int y1), some (.int y2), some (.int y3), some (.int y4), some (.int y5), none], []) (107, I, J, mm_rf rv sp rr w nw) Q := by
  intro n
  induction n with
  | zero =>
    intro y1 y2 y3 y4 y5 I J rv sp rr w nw out e k
    rw [fX12_coolest_L34] at e; cases e
  | succ n ih =>
    intro y1 y2 y3 y4 y5 I J rv sp rr w nw out e k
    rw [fX12_coolest_L34] at e
    refine mm_T.seg (f' := (39, [some (.ref 62), some (.int y1), some (.int y2), some (.int y3), some (.int y4), some (.int y5), none], [(.int y1), (.ref 62), (.int 3), (.int y5)])) (h' := (107, I, J, mm_rf rv sp rr w nw)) 4 rfl ?_
    obtain ⟨o713, eo713, e⟩ := mm_bind e
    refine mm_T.call (t := 278) (as := [(.ref 62), (.int y1)]) (f' := (42, [some (.ref 62), some (.int y1), some (.int y2), some (.int y3), some (.int y4), some (.int y5), none], [(.int 3), (.int y5)])) rfl (tX12_leftOf (d + 4) y1 I J rv sp rr w nw o713 eo713) (fun v h hq => ?_)
    obtain ⟨rfl, rfl⟩ := hq
    obtain ⟨o714, eo714, e⟩ := mm_bind e
    refine mm_T.call (t := 277) (as := [(.int 3), (.int o713)]) (f' := (45, [some (.ref 62), some (.int y1), some (.int y2), some (.int y3), some (.int y4), some (.int y5), none], [(.int y5)])) rfl (tX12_power (d + 4) n 3 o713 I J rv sp rr w nw o714 eo714) (fun v h hq => ?_)
    obtain ⟨rfl, rfl⟩ := hq
    refine mm_T.br (c := y5 < o714) (a := ((48, [some (.ref 62), some (.int y1), some (.int y2), some (.int y3), some (.int y4), some (.int y5), none], []), (107, I, J, mm_rf rv sp rr w nw))) (b := ((126, [some (.ref 62), some (.int y1), some (.int y2), some (.int y3), some (.int y4), some (.int y5), none], []), (107, I, J, mm_rf rv sp rr w nw))) rfl (fun h715 => ?_) (fun h715 => ?_)
    · rw [if_pos h715] at e
      refine mm_T.seg (f' := (52, [some (.ref 62), some (.int y1), some (.int y2), some (.int y3), some (.int y4), some (.int y5), none], [(.int y5), (.int y1), (.ref 62)])) (h' := (107, I, J, mm_rf rv sp rr w nw)) 3 rfl ?_
      obtain ⟨o716, eo716, e⟩ := mm_bind e
      refine mm_T.call (t := 279) (as := [(.ref 62), (.int y1), (.int y5)]) (f' := (55, [some (.ref 62), some (.int y1), some (.int y2), some (.int y3), some (.int y4), some (.int y5), none], [])) rfl (tX12_goRow (d + 0) n y1 y5 I J rv sp rr w nw o716 eo716) (fun v h hq => ?_)
      obtain ⟨rfl, rfl⟩ := hq
      refine mm_T.br (c := o716.1 = 0) (a := ((58, [some (.ref 62), some (.int y1), some (.int y2), some (.int y3), some (.int y4), some (.int y5), none], []), (107, o716.2, J, mm_rf rv sp rr w nw))) (b := ((61, [some (.ref 62), some (.int y1), some (.int y2), some (.int y3), some (.int y4), some (.int y5), none], []), (107, o716.2, J, mm_rf rv sp rr w nw))) rfl (fun h717 => ?_) (fun h717 => ?_)
      · rw [if_pos h717] at e
        refine mm_T.seg (f' := (34, [some (.ref 62), some (.int y1), some (.int y2), some (.int y3), some (.int y4), some (.int (y5 + 1)), none], [])) (h' := (107, o716.2, J, mm_rf rv sp rr w nw)) 3 rfl ?_
        refine mm_T.mask [true, true, true, true, true, true, false] ?_
        exact ih y1 y2 y3 y4 (y5 + 1) o716.2 J rv sp rr w nw out e k
      · rw [if_neg h717] at e
        refine mm_T.seg (f' := (67, [some (.ref 62), some (.int y1), some (.int y2), some (.int y3), some (.int y4), some (.int y5), none], [(.ref 85), (.int 100)])) (h' := (107, o716.2, J, mm_rf rv sp rr w nw)) 3 rfl ?_
        refine mm_T.seg (f' := (71, [some (.ref 62), some (.int y1), some (.int y2), some (.int y3), some (.int y4), some (.int y5), none], [(.int (12 + y1)), (.ref 85), (.int 100)])) (h' := (107, o716.2, J, mm_rf rv sp rr w nw)) 3 rfl ?_
        by_cases h718 : (12 + y1) < 0 ∨ 28 ≤ (12 + y1).toNatClampNeg
        · rw [if_pos h718] at e; cases e
        rw [if_neg h718] at e
        refine mm_T.guard (c := (12 + y1) < 0 ∨ 28 ≤ (12 + y1).toNatClampNeg) (y := ((72, [some (.ref 62), some (.int y1), some (.int y2), some (.int y3), some (.int y4), some (.int y5), none], [(.int (o716.2 85 (12 + y1).toNatClampNeg)), (.int 100)]), (107, o716.2, J, mm_rf rv sp rr w nw))) (mm_gen (P := fun z => mm_stp none 286 (71, [some (.ref 62), some (.int y1), some (.int y2), some (.int y3), some (.int y4), some (.int y5), none], [(.int z), (.ref 85), (.int 100)]) (107, o716.2, J, mm_rf rv sp rr w nw) = if z < 0 ∨ 28 ≤ z.toNatClampNeg then none else some (.inl ((72, [some (.ref 62), some (.int y1), some (.int y2), some (.int y3), some (.int y4), some (.int y5), none], [(.int (o716.2 85 z.toNatClampNeg)), (.int 100)]), (107, o716.2, J, mm_rf rv sp rr w nw)))) (12 + y1) (fun z => rfl)) h718 ?_
        refine mm_T.seg (f' := (76, [some (.ref 62), some (.int y1), some (.int y2), some (.int y3), some (.int y4), some (.int y5), none], [(.ref 84), (.int (o716.2 85 (12 + y1).toNatClampNeg)), (.int 100)])) (h' := (107, o716.2, J, mm_rf rv sp rr w nw)) 2 rfl ?_
        refine mm_T.seg (f' := (80, [some (.ref 62), some (.int y1), some (.int y2), some (.int y3), some (.int y4), some (.int y5), none], [(.int (12 + y1)), (.ref 84), (.int (o716.2 85 (12 + y1).toNatClampNeg)), (.int 100)])) (h' := (107, o716.2, J, mm_rf rv sp rr w nw)) 3 rfl ?_
        by_cases h719 : (12 + y1) < 0 ∨ 28 ≤ (12 + y1).toNatClampNeg
        · rw [if_pos h719] at e; cases e
        rw [if_neg h719] at e
        refine mm_T.guard (c := (12 + y1) < 0 ∨ 28 ≤ (12 + y1).toNatClampNeg) (y := ((81, [some (.ref 62), some (.int y1), some (.int y2), some (.int y3), some (.int y4), some (.int y5), none], [(.int (o716.2 84 (12 + y1).toNatClampNeg)), (.int (o716.2 85 (12 + y1).toNatClampNeg)), (.int 100)]), (107, o716.2, J, mm_rf rv sp rr w nw))) (mm_gen (P := fun z => mm_stp none 286 (80, [some (.ref 62), some (.int y1), some (.int y2), some (.int y3), some (.int y4), some (.int y5), none], [(.int z), (.ref 84), (.int (o716.2 85 z.toNatClampNeg)), (.int 100)]) (107, o716.2, J, mm_rf rv sp rr w nw) = if z < 0 ∨ 28 ≤ z.toNatClampNeg then none else some (.inl ((81, [some (.ref 62), some (.int y1), some (.int y2), some (.int y3), some (.int y4), some (.int y5), none], [(.int (o716.2 84 z.toNatClampNeg)), (.int (o716.2 85 z.toNatClampNeg)), (.int 100)]), (107, o716.2, J, mm_rf rv sp rr w nw)))) (12 + y1) (fun z => rfl)) h719 ?_
        refine mm_T.seg (f' := (87, [some (.ref 62), some (.int y1), some (.int y2), some (.int y3), some (.int y4), some (.int y5), none], [(.ref 85), (.int (100 * ((o716.2 85 (12 + y1).toNatClampNeg) - (o716.2 84 (12 + y1).toNatClampNeg))))])) (h' := (107, o716.2, J, mm_rf rv sp rr w nw)) 4 rfl ?_
        refine mm_T.seg (f' := (91, [some (.ref 62), some (.int y1), some (.int y2), some (.int y3), some (.int y4), some (.int y5), none], [(.int (8 + y1)), (.ref 85), (.int (100 * ((o716.2 85 (12 + y1).toNatClampNeg) - (o716.2 84 (12 + y1).toNatClampNeg))))])) (h' := (107, o716.2, J, mm_rf rv sp rr w nw)) 3 rfl ?_
        by_cases h720 : (8 + y1) < 0 ∨ 28 ≤ (8 + y1).toNatClampNeg
        · rw [if_pos h720] at e; cases e
        rw [if_neg h720] at e
        refine mm_T.guard (c := (8 + y1) < 0 ∨ 28 ≤ (8 + y1).toNatClampNeg) (y := ((92, [some (.ref 62), some (.int y1), some (.int y2), some (.int y3), some (.int y4), some (.int y5), none], [(.int (o716.2 85 (8 + y1).toNatClampNeg)), (.int (100 * ((o716.2 85 (12 + y1).toNatClampNeg) - (o716.2 84 (12 + y1).toNatClampNeg))))]), (107, o716.2, J, mm_rf rv sp rr w nw))) (mm_gen (P := fun z => mm_stp none 286 (91, [some (.ref 62), some (.int y1), some (.int y2), some (.int y3), some (.int y4), some (.int y5), none], [(.int z), (.ref 85), (.int (100 * ((o716.2 85 (12 + y1).toNatClampNeg) - (o716.2 84 (12 + y1).toNatClampNeg))))]) (107, o716.2, J, mm_rf rv sp rr w nw) = if z < 0 ∨ 28 ≤ z.toNatClampNeg then none else some (.inl ((92, [some (.ref 62), some (.int y1), some (.int y2), some (.int y3), some (.int y4), some (.int y5), none], [(.int (o716.2 85 z.toNatClampNeg)), (.int (100 * ((o716.2 85 (12 + y1).toNatClampNeg) - (o716.2 84 (12 + y1).toNatClampNeg))))]), (107, o716.2, J, mm_rf rv sp rr w nw)))) (8 + y1) (fun z => rfl)) h720 ?_
        refine mm_T.seg (f' := (98, [some (.ref 62), some (.int y1), some (.int y2), some (.int y3), some (.int y4), some (.int y5), some (.int ((100 * ((o716.2 85 (12 + y1).toNatClampNeg) - (o716.2 84 (12 + y1).toNatClampNeg))) + (o716.2 85 (8 + y1).toNatClampNeg)))], [(.int y3), (.int ((100 * ((o716.2 85 (12 + y1).toNatClampNeg) - (o716.2 84 (12 + y1).toNatClampNeg))) + (o716.2 85 (8 + y1).toNatClampNeg)))])) (h' := (107, o716.2, J, mm_rf rv sp rr w nw)) 4 rfl ?_
        refine mm_T.br (c := ((100 * ((o716.2 85 (12 + y1).toNatClampNeg) - (o716.2 84 (12 + y1).toNatClampNeg))) + (o716.2 85 (8 + y1).toNatClampNeg)) < y3) (a := ((104, [some (.ref 62), some (.int y1), some (.int y2), some (.int y3), some (.int y4), some (.int y5), some (.int ((100 * ((o716.2 85 (12 + y1).toNatClampNeg) - (o716.2 84 (12 + y1).toNatClampNeg))) + (o716.2 85 (8 + y1).toNatClampNeg)))], []), (107, o716.2, J, mm_rf rv sp rr w nw))) (b := ((101, [some (.ref 62), some (.int y1), some (.int y2), some (.int y3), some (.int y4), some (.int y5), some (.int ((100 * ((o716.2 85 (12 + y1).toNatClampNeg) - (o716.2 84 (12 + y1).toNatClampNeg))) + (o716.2 85 (8 + y1).toNatClampNeg)))], []), (107, o716.2, J, mm_rf rv sp rr w nw))) rfl (fun h721 => ?_) (fun h721 => ?_)
        · rw [if_pos h721] at e
          refine mm_T.seg (f' := (111, [some (.ref 62), some (.int y1), some (.int y2), some (.int ((100 * ((o716.2 85 (12 + y1).toNatClampNeg) - (o716.2 84 (12 + y1).toNatClampNeg))) + (o716.2 85 (8 + y1).toNatClampNeg))), some (.int y4), some (.int y5), some (.int ((100 * ((o716.2 85 (12 + y1).toNatClampNeg) - (o716.2 84 (12 + y1).toNatClampNeg))) + (o716.2 85 (8 + y1).toNatClampNeg)))], [(.ref 85)])) (h' := (107, o716.2, J, mm_rf rv sp rr w nw)) 4 rfl ?_
          refine mm_T.seg (f' := (112, [some (.ref 62), some (.int y1), some (.int y2), some (.int ((100 * ((o716.2 85 (12 + y1).toNatClampNeg) - (o716.2 84 (12 + y1).toNatClampNeg))) + (o716.2 85 (8 + y1).toNatClampNeg))), some (.int y4), some (.int y5), some (.int ((100 * ((o716.2 85 (12 + y1).toNatClampNeg) - (o716.2 84 (12 + y1).toNatClampNeg))) + (o716.2 85 (8 + y1).toNatClampNeg)))], [(.int y1), (.ref 85)])) (h' := (107, o716.2, J, mm_rf rv sp rr w nw)) 1 rfl ?_
          by_cases h722 : y1 < 0 ∨ 28 ≤ y1.toNatClampNeg
          · rw [if_pos h722] at e; cases e
          rw [if_neg h722] at e
          refine mm_T.guard (y := ((113, [some (.ref 62), some (.int y1), some (.int y2), some (.int ((100 * ((o716.2 85 (12 + y1).toNatClampNeg) - (o716.2 84 (12 + y1).toNatClampNeg))) + (o716.2 85 (8 + y1).toNatClampNeg))), some (.int y4), some (.int y5), some (.int ((100 * ((o716.2 85 (12 + y1).toNatClampNeg) - (o716.2 84 (12 + y1).toNatClampNeg))) + (o716.2 85 (8 + y1).toNatClampNeg)))], [(.int (o716.2 85 y1.toNatClampNeg))]), (107, o716.2, J, mm_rf rv sp rr w nw))) rfl h722 ?_
          refine mm_T.seg (f' := (117, [some (.ref 62), some (.int y1), some (.int y2), some (.int ((100 * ((o716.2 85 (12 + y1).toNatClampNeg) - (o716.2 84 (12 + y1).toNatClampNeg))) + (o716.2 85 (8 + y1).toNatClampNeg))), some (.int (o716.2 85 y1.toNatClampNeg)), some (.int y5), some (.int ((100 * ((o716.2 85 (12 + y1).toNatClampNeg) - (o716.2 84 (12 + y1).toNatClampNeg))) + (o716.2 85 (8 + y1).toNatClampNeg)))], [(.int y1), (.ref 62)])) (h' := (107, o716.2, J, mm_rf rv sp rr w nw)) 3 rfl ?_
          obtain ⟨o723, eo723, e⟩ := mm_bind e
          refine mm_T.call (t := 280) (as := [(.ref 62), (.int y1)]) (f' := (120, [some (.ref 62), some (.int y1), some (.int y2), some (.int ((100 * ((o716.2 85 (12 + y1).toNatClampNeg) - (o716.2 84 (12 + y1).toNatClampNeg))) + (o716.2 85 (8 + y1).toNatClampNeg))), some (.int (o716.2 85 y1.toNatClampNeg)), some (.int y5), some (.int ((100 * ((o716.2 85 (12 + y1).toNatClampNeg) - (o716.2 84 (12 + y1).toNatClampNeg))) + (o716.2 85 (8 + y1).toNatClampNeg)))], [])) rfl (tX12_putSteers (d + 3) n y1 o716.2 J rv sp rr w nw o723 eo723) (fun v h hq => ?_)
          obtain ⟨rfl, rfl⟩ := hq
          refine mm_T.seg (f' := (34, [some (.ref 62), some (.int y1), some (.int y2), some (.int ((100 * ((o716.2 85 (12 + y1).toNatClampNeg) - (o716.2 84 (12 + y1).toNatClampNeg))) + (o716.2 85 (8 + y1).toNatClampNeg))), some (.int (o716.2 85 y1.toNatClampNeg)), some (.int (y5 + 1)), some (.int ((100 * ((o716.2 85 (12 + y1).toNatClampNeg) - (o716.2 84 (12 + y1).toNatClampNeg))) + (o716.2 85 (8 + y1).toNatClampNeg)))], [])) (h' := (107, o723, J, mm_rf rv sp rr w nw)) 2 rfl ?_
          refine mm_T.mask [true, true, true, true, true, true, false] ?_
          exact ih y1 y2 ((100 * ((o716.2 85 (12 + y1).toNatClampNeg) - (o716.2 84 (12 + y1).toNatClampNeg))) + (o716.2 85 (8 + y1).toNatClampNeg)) (o716.2 85 y1.toNatClampNeg) (y5 + 1) o723 J rv sp rr w nw out e k
        · rw [if_neg h721] at e
          refine mm_T.seg (f' := (34, [some (.ref 62), some (.int y1), some (.int y2), some (.int y3), some (.int y4), some (.int (y5 + 1)), some (.int ((100 * ((o716.2 85 (12 + y1).toNatClampNeg) - (o716.2 84 (12 + y1).toNatClampNeg))) + (o716.2 85 (8 + y1).toNatClampNeg)))], [])) (h' := (107, o716.2, J, mm_rf rv sp rr w nw)) 3 rfl ?_
          refine mm_T.mask [true, true, true, true, true, true, false] ?_
          exact ih y1 y2 y3 y4 (y5 + 1) o716.2 J rv sp rr w nw out e k
    · rw [if_neg h715] at e
      cases e
      refine mm_T.mask [false, false, true, true, true, false, false] ?_
      exact k
set_option maxRecDepth 100000 in
set_option maxHeartbeats 4000000 in
theorem tX12_coolest (d n : Nat) (x1 : Int32) (x2 : Int32) (I : Nat → Nat → Int32) (J : Nat → Nat → Int64) (rv sp rr w nw : Nat) (out : Int32 × (Nat → Nat → Int32)) (e : fX12_coolest n x1 x2 I = some out) : mm_T none (d + 5) 286 (mm_ent 286 [(.ref 62), (.int x1), (.int x2)]) (107, I, J, mm_rf rv sp rr w nw) (fun v h => v = some (.int out.1) ∧ h = (107, out.2, J, mm_rf rv sp rr w nw)) := by
  unfold fX12_coolest at e
  refine mm_T.seg (f' := (7, [some (.ref 62), some (.int x1), some (.int x2), none, none, none, none], [(.int x1), (.ref 62)])) (h' := (107, (mm_up I 62 61 0), J, mm_rf rv sp rr w nw)) 5 rfl ?_
  obtain ⟨o710, eo710, e⟩ := mm_bind e
  refine mm_T.call (t := 253) (as := [(.ref 62), (.int x1)]) (f' := (10, [some (.ref 62), some (.int x1), some (.int x2), none, none, none, none], [])) rfl (tX12_isBoard (d + 3) x1 (mm_up I 62 61 0) J rv sp rr w nw o710 eo710) (fun v h hq => ?_)
  obtain ⟨rfl, rfl⟩ := hq
  refine mm_T.br (c := o710 = 0) (a := ((22, [some (.ref 62), some (.int x1), some (.int x2), none, none, none, none], []), (107, (mm_up I 62 61 0), J, mm_rf rv sp rr w nw))) (b := ((13, [some (.ref 62), some (.int x1), some (.int x2), none, none, none, none], []), (107, (mm_up I 62 61 0), J, mm_rf rv sp rr w nw))) rfl (fun h711 => ?_) (fun h711 => ?_)
  · rw [if_pos h711] at e
    refine mm_T.seg (f' := (23, [some (.ref 62), some (.int x1), some (.int x2), none, none, none, none], [(.int (-1))])) (h' := (107, (mm_up I 62 61 0), J, mm_rf rv sp rr w nw)) 1 rfl ?_
    cases e
    exact mm_T.ret rfl ⟨rfl, rfl⟩
  · rw [if_neg h711] at e
    refine mm_T.seg (f' := (16, [some (.ref 62), some (.int x1), some (.int x2), none, none, none, none], [(.int 2), (.int 0), (.int x2)])) (h' := (107, (mm_up I 62 61 0), J, mm_rf rv sp rr w nw)) 3 rfl ?_
    obtain ⟨g138, hg138⟩ : ∃ z, fX12_isIn x2 0 2 = z := ⟨_, rfl⟩
    try rw [hg138] at e
    refine mm_T.call (t := 252) (as := [(.int x2), (.int 0), (.int 2)]) (f' := (19, [some (.ref 62), some (.int x1), some (.int x2), none, none, none, none], [])) rfl (tX12_isIn (d + 4) x2 0 2 (mm_up I 62 61 0) J rv sp rr w nw g138 hg138) (fun v h hq => ?_)
    obtain ⟨rfl, rfl⟩ := hq
    refine mm_T.br (c := g138 = 0) (a := ((22, [some (.ref 62), some (.int x1), some (.int x2), none, none, none, none], []), (107, (mm_up I 62 61 0), J, mm_rf rv sp rr w nw))) (b := ((24, [some (.ref 62), some (.int x1), some (.int x2), none, none, none, none], []), (107, (mm_up I 62 61 0), J, mm_rf rv sp rr w nw))) rfl (fun h712 => ?_) (fun h712 => ?_)
    · rw [if_pos h712] at e
      refine mm_T.seg (f' := (23, [some (.ref 62), some (.int x1), some (.int x2), none, none, none, none], [(.int (-1))])) (h' := (107, (mm_up I 62 61 0), J, mm_rf rv sp rr w nw)) 1 rfl ?_
      cases e
      exact mm_T.ret rfl ⟨rfl, rfl⟩
    · rw [if_neg h712] at e
      refine mm_T.seg (f' := (34, [some (.ref 62), some (.int x1), some (.int x2), some (.int 1000000), some (.int (-1)), some (.int 0), none], [])) (h' := (107, (mm_up I 62 61 0), J, mm_rf rv sp rr w nw)) 6 rfl ?_
      refine mm_T.mask [true, true, true, true, true, true, false] ?_
      obtain ⟨o724, eo724, e⟩ := mm_bind e
      refine tlX12_coolest_L34 d _ n x1 x2 1000000 (-1) 0 (mm_up I 62 61 0) J rv sp rr w nw o724 eo724 ?_
      refine mm_T.seg (f' := (128, [none, none, some (.int x2), some (.int o724.1), some (.int o724.2.1), none, none], [(.int o724.2.1)])) (h' := (107, o724.2.2, J, mm_rf rv sp rr w nw)) 1 rfl ?_
      refine mm_T.br (c := o724.2.1 < 0) (a := ((131, [none, none, some (.int x2), some (.int o724.1), some (.int o724.2.1), none, none], []), (107, o724.2.2, J, mm_rf rv sp rr w nw))) (b := ((135, [none, none, some (.int x2), some (.int o724.1), some (.int o724.2.1), none, none], []), (107, o724.2.2, J, mm_rf rv sp rr w nw))) rfl (fun h725 => ?_) (fun h725 => ?_)
      · rw [if_pos h725] at e
        refine mm_T.seg (f' := (160, [none, none, some (.int x2), some (.int o724.1), some (.int o724.2.1), none, none], [(.int (-1))])) (h' := (107, o724.2.2, J, mm_rf rv sp rr w nw)) 2 rfl ?_
        cases e
        exact mm_T.ret rfl ⟨rfl, rfl⟩
      · rw [if_neg h725] at e
        refine mm_T.seg (f' := (136, [none, none, some (.int x2), some (.int o724.1), some (.int o724.2.1), none, none], [(.int x2)])) (h' := (107, o724.2.2, J, mm_rf rv sp rr w nw)) 1 rfl ?_
        refine mm_T.br (c := x2 = 0) (a := ((139, [none, none, some (.int x2), some (.int o724.1), some (.int o724.2.1), none, none], []), (107, o724.2.2, J, mm_rf rv sp rr w nw))) (b := ((146, [none, none, some (.int x2), some (.int o724.1), some (.int o724.2.1), none, none], []), (107, o724.2.2, J, mm_rf rv sp rr w nw))) rfl (fun h726 => ?_) (fun h726 => ?_)
        · rw [if_pos h726] at e
          refine mm_T.seg (f' := (160, [none, none, some (.int x2), some (.int o724.1), some (.int o724.2.1), none, none], [(.int (o724.1 / 100))])) (h' := (107, o724.2.2, J, mm_rf rv sp rr w nw)) 4 rfl ?_
          cases e
          exact mm_T.ret rfl ⟨rfl, rfl⟩
        · rw [if_neg h726] at e
          refine mm_T.seg (f' := (148, [none, none, some (.int x2), some (.int o724.1), some (.int o724.2.1), none, none], [(.int 1), (.int x2)])) (h' := (107, o724.2.2, J, mm_rf rv sp rr w nw)) 2 rfl ?_
          refine mm_T.br (c := x2 = 1) (a := ((151, [none, none, some (.int x2), some (.int o724.1), some (.int o724.2.1), none, none], []), (107, o724.2.2, J, mm_rf rv sp rr w nw))) (b := ((158, [none, none, some (.int x2), some (.int o724.1), some (.int o724.2.1), none, none], []), (107, o724.2.2, J, mm_rf rv sp rr w nw))) rfl (fun h727 => ?_) (fun h727 => ?_)
          · rw [if_pos h727] at e
            refine mm_T.seg (f' := (160, [none, none, some (.int x2), some (.int o724.1), some (.int o724.2.1), none, none], [(.int (o724.1 - o724.1 / 100 * 100))])) (h' := (107, o724.2.2, J, mm_rf rv sp rr w nw)) 4 rfl ?_
            cases e
            exact mm_T.ret rfl ⟨rfl, rfl⟩
          · rw [if_neg h727] at e
            refine mm_T.seg (f' := (160, [none, none, some (.int x2), some (.int o724.1), some (.int o724.2.1), none, none], [(.int o724.2.1)])) (h' := (107, o724.2.2, J, mm_rf rv sp rr w nw)) 1 rfl ?_
            cases e
            exact mm_T.ret rfl ⟨rfl, rfl⟩
set_option maxRecDepth 100000 in
set_option maxHeartbeats 4000000 in
theorem tlX12_turned_L4 (d : Nat) (Q : Option Value → mm_H → Prop) : ∀ (n : Nat) (y1 : Int32) (y2 : Int32) (y3 : Int32) (I : Nat → Nat → Int32) (J : Nat → Nat → Int64) (rv sp rr w nw : Nat), ∀ (out : Int32), fX12_turned_L4 n y1 y2 y3 I = some out → mm_T none (d + 1) 287 (35, [none, none, some (.int out), none], []) (107, I, J, mm_rf rv sp rr w nw) Q → mm_T none (d + 1) 287 (4, [some (.ref 62), some (.int y1), some (.int y2), some (.int y3)], []) (107, I, J, mm_rf rv sp rr w nw) Q := by
  intro n
  induction n with
  | zero =>
    intro y1 y2 y3 I J rv sp rr w nw out e k
    rw [fX12_turned_L4] at e; cases e
  | succ n ih =>
    intro y1 y2 y3 I J rv sp rr w nw out e k
    rw [fX12_turned_L4] at e
    refine mm_T.seg (f' := (6, [some (.ref 62), some (.int y1), some (.int y2), some (.int y3)], [(.int y1), (.int y3)])) (h' := (107, I, J, mm_rf rv sp rr w nw)) 2 rfl ?_
    refine mm_T.br (c := y3 < y1) (a := ((9, [some (.ref 62), some (.int y1), some (.int y2), some (.int y3)], []), (107, I, J, mm_rf rv sp rr w nw))) (b := ((35, [some (.ref 62), some (.int y1), some (.int y2), some (.int y3)], []), (107, I, J, mm_rf rv sp rr w nw))) rfl (fun h731 => ?_) (fun h731 => ?_)
    · rw [if_pos h731] at e
      refine mm_T.seg (f' := (14, [some (.ref 62), some (.int y1), some (.int y2), some (.int y3)], [(.ref 87), (.int y2)])) (h' := (107, I, J, mm_rf rv sp rr w nw)) 3 rfl ?_
      refine mm_T.seg (f' := (15, [some (.ref 62), some (.int y1), some (.int y2), some (.int y3)], [(.int y3), (.ref 87), (.int y2)])) (h' := (107, I, J, mm_rf rv sp rr w nw)) 1 rfl ?_
      by_cases h732 : y3 < 0 ∨ 6 ≤ y3.toNatClampNeg
      · rw [if_pos h732] at e; cases e
      rw [if_neg h732] at e
      refine mm_T.guard (y := ((16, [some (.ref 62), some (.int y1), some (.int y2), some (.int y3)], [(.int (I 87 y3.toNatClampNeg)), (.int y2)]), (107, I, J, mm_rf rv sp rr w nw))) rfl h732 ?_
      refine mm_T.br (c := (I 87 y3.toNatClampNeg) = 0) (a := ((23, [some (.ref 62), some (.int y1), some (.int y2), some (.int y3)], [(.int y2)]), (107, I, J, mm_rf rv sp rr w nw))) (b := ((19, [some (.ref 62), some (.int y1), some (.int y2), some (.int y3)], [(.int y2)]), (107, I, J, mm_rf rv sp rr w nw))) rfl (fun h733 => ?_) (fun h733 => ?_)
      · rw [if_pos h733] at e
        refine mm_T.seg (f' := (24, [some (.ref 62), some (.int y1), some (.int y2), some (.int y3)], [(.int 0), (.int y2)])) (h' := (107, I, J, mm_rf rv sp rr w nw)) 1 rfl ?_
        obtain ⟨g141, hg141⟩ : ∃ z, fX12_truth 0 = z := ⟨_, rfl⟩
        try rw [hg141] at e
        refine mm_T.call (t := 236) (as := [(.int 0)]) (f' := (27, [some (.ref 62), some (.int y1), some (.int y2), some (.int y3)], [(.int y2)])) rfl (tX12_truth (d + 0) 0 I J rv sp rr w nw g141 hg141) (fun v h hq => ?_)
        obtain ⟨rfl, rfl⟩ := hq
        refine mm_T.seg (f' := (4, [some (.ref 62), some (.int y1), some (.int (y2 + g141)), some (.int (y3 + 1))], [])) (h' := (107, I, J, mm_rf rv sp rr w nw)) 4 rfl ?_
        refine mm_T.mask [true, true, true, true] ?_
        exact ih y1 (y2 + g141) (y3 + 1) I J rv sp rr w nw out e k
      · rw [if_neg h733] at e
        refine mm_T.seg (f' := (24, [some (.ref 62), some (.int y1), some (.int y2), some (.int y3)], [(.int 1), (.int y2)])) (h' := (107, I, J, mm_rf rv sp rr w nw)) 2 rfl ?_
        obtain ⟨g142, hg142⟩ : ∃ z, fX12_truth 1 = z := ⟨_, rfl⟩
        try rw [hg142] at e
        refine mm_T.call (t := 236) (as := [(.int 1)]) (f' := (27, [some (.ref 62), some (.int y1), some (.int y2), some (.int y3)], [(.int y2)])) rfl (tX12_truth (d + 0) 1 I J rv sp rr w nw g142 hg142) (fun v h hq => ?_)
        obtain ⟨rfl, rfl⟩ := hq
        refine mm_T.seg (f' := (4, [some (.ref 62), some (.int y1), some (.int (y2 + g142)), some (.int (y3 + 1))], [])) (h' := (107, I, J, mm_rf rv sp rr w nw)) 4 rfl ?_
        refine mm_T.mask [true, true, true, true] ?_
        exact ih y1 (y2 + g142) (y3 + 1) I J rv sp rr w nw out e k
    · rw [if_neg h731] at e
      cases e
      refine mm_T.mask [false, false, true, false] ?_
      exact k
set_option maxRecDepth 100000 in
set_option maxHeartbeats 4000000 in
theorem tX12_turned (d n : Nat) (x1 : Int32) (I : Nat → Nat → Int32) (J : Nat → Nat → Int64) (rv sp rr w nw : Nat) (out : Int32) (e : fX12_turned n x1 I = some out) : mm_T none (d + 1) 287 (mm_ent 287 [(.ref 62), (.int x1)]) (107, I, J, mm_rf rv sp rr w nw) (fun v h => v = some (.int out) ∧ h = (107, I, J, mm_rf rv sp rr w nw)) := by
  unfold fX12_turned at e
  refine mm_T.seg (f' := (4, [some (.ref 62), some (.int x1), some (.int 0), some (.int 0)], [])) (h' := (107, I, J, mm_rf rv sp rr w nw)) 4 rfl ?_
  refine mm_T.mask [true, true, true, true] ?_
  obtain ⟨o734, eo734, e⟩ := mm_bind e
  refine tlX12_turned_L4 d _ n x1 0 0 I J rv sp rr w nw o734 eo734 ?_
  refine mm_T.seg (f' := (36, [none, none, some (.int o734), none], [(.int o734)])) (h' := (107, I, J, mm_rf rv sp rr w nw)) 1 rfl ?_
  cases e
  exact mm_T.ret rfl ⟨rfl, rfl⟩
set_option maxRecDepth 100000 in
set_option maxHeartbeats 4000000 in
theorem tlX12_straight_L36 (d : Nat) (Q : Option Value → mm_H → Prop) : ∀ (n : Nat) (y1 : Int32) (y2 : Int32) (y3 : Int32) (y4 : Int32) (I : Nat → Nat → Int32) (J : Nat → Nat → Int64) (rv sp rr w nw : Nat), ∀ (out : Int32 × (Nat → Nat → Int32)), fX12_straight_L36 n y1 y2 y3 y4 I = some out → mm_T none (d + 5) 288 (107, [none, none, none, some (.int out.1), none], []) (107, out.2, J, mm_rf rv sp rr w nw) Q → mm_T none (d + 5) 288 (36, [some (.ref 62), some (.int y1), some (.int y2), some (.int y3), some (.int y4)], []) (107, I, J, mm_rf rv sp rr w nw) Q := by
  intro n
  induction n with
  | zero =>
    intro y1 y2 y3 y4 I J rv sp rr w nw out e k
    rw [fX12_straight_L36] at e; cases e
  | succ n ih =>
    intro y1 y2 y3 y4 I J rv sp rr w nw out e k
    rw [fX12_straight_L36] at e
    refine mm_T.seg (f' := (41, [some (.ref 62), some (.int y1), some (.int y2), some (.int y3), some (.int y4)], [(.int y1), (.ref 62), (.int 3), (.int y4)])) (h' := (107, I, J, mm_rf rv sp rr w nw)) 4 rfl ?_
    obtain ⟨o738, eo738, e⟩ := mm_bind e
    refine mm_T.call (t := 278) (as := [(.ref 62), (.int y1)]) (f' := (44, [some (.ref 62), some (.int y1), some (.int y2), some (.int y3), some (.int y4)], [(.int 3), (.int y4)])) rfl (tX12_leftOf (d + 4) y1 I J rv sp rr w nw o738 eo738) (fun v h hq => ?_)
    obtain ⟨rfl, rfl⟩ := hq
    obtain ⟨o739, eo739, e⟩ := mm_bind e
    refine mm_T.call (t := 277) (as := [(.int 3), (.int o738)]) (f' := (47, [some (.ref 62), some (.int y1), some (.int y2), some (.int y3), some (.int y4)], [(.int y4)])) rfl (tX12_power (d + 4) n 3 o738 I J rv sp rr w nw o739 eo739) (fun v h hq => ?_)
    obtain ⟨rfl, rfl⟩ := hq
    refine mm_T.br (c := y4 < o739) (a := ((50, [some (.ref 62), some (.int y1), some (.int y2), some (.int y3), some (.int y4)], []), (107, I, J, mm_rf rv sp rr w nw))) (b := ((107, [some (.ref 62), some (.int y1), some (.int y2), some (.int y3), some (.int y4)], []), (107, I, J, mm_rf rv sp rr w nw))) rfl (fun h740 => ?_) (fun h740 => ?_)
    · rw [if_pos h740] at e
      refine mm_T.seg (f' := (54, [some (.ref 62), some (.int y1), some (.int y2), some (.int y3), some (.int y4)], [(.int y4), (.int y1), (.ref 62)])) (h' := (107, I, J, mm_rf rv sp rr w nw)) 3 rfl ?_
      obtain ⟨o741, eo741, e⟩ := mm_bind e
      refine mm_T.call (t := 279) (as := [(.ref 62), (.int y1), (.int y4)]) (f' := (57, [some (.ref 62), some (.int y1), some (.int y2), some (.int y3), some (.int y4)], [])) rfl (tX12_goRow (d + 0) n y1 y4 I J rv sp rr w nw o741 eo741) (fun v h hq => ?_)
      obtain ⟨rfl, rfl⟩ := hq
      refine mm_T.br (c := o741.1 = 0) (a := ((101, [some (.ref 62), some (.int y1), some (.int y2), some (.int y3), some (.int y4)], []), (107, o741.2, J, mm_rf rv sp rr w nw))) (b := ((60, [some (.ref 62), some (.int y1), some (.int y2), some (.int y3), some (.int y4)], []), (107, o741.2, J, mm_rf rv sp rr w nw))) rfl (fun h742 => ?_) (fun h742 => ?_)
      · rw [if_pos h742] at e
        refine mm_T.seg (f' := (36, [some (.ref 62), some (.int y1), some (.int y2), some (.int y3), some (.int (y4 + 1))], [])) (h' := (107, o741.2, J, mm_rf rv sp rr w nw)) 2 rfl ?_
        refine mm_T.mask [true, true, true, true, true] ?_
        exact ih y1 y2 y3 (y4 + 1) o741.2 J rv sp rr w nw out e k
      · rw [if_neg h742] at e
        refine mm_T.seg (f' := (64, [some (.ref 62), some (.int y1), some (.int y2), some (.int y3), some (.int y4)], [(.ref 85)])) (h' := (107, o741.2, J, mm_rf rv sp rr w nw)) 2 rfl ?_
        refine mm_T.seg (f' := (65, [some (.ref 62), some (.int y1), some (.int y2), some (.int y3), some (.int y4)], [(.int y1), (.ref 85)])) (h' := (107, o741.2, J, mm_rf rv sp rr w nw)) 1 rfl ?_
        by_cases h743 : y1 < 0 ∨ 28 ≤ y1.toNatClampNeg
        · rw [if_pos h743] at e; cases e
        rw [if_neg h743] at e
        refine mm_T.guard (y := ((66, [some (.ref 62), some (.int y1), some (.int y2), some (.int y3), some (.int y4)], [(.int (o741.2 85 y1.toNatClampNeg))]), (107, o741.2, J, mm_rf rv sp rr w nw))) rfl h743 ?_
        refine mm_T.seg (f' := (67, [some (.ref 62), some (.int y1), some (.int y2), some (.int y3), some (.int y4)], [(.int y2), (.int (o741.2 85 y1.toNatClampNeg))])) (h' := (107, o741.2, J, mm_rf rv sp rr w nw)) 1 rfl ?_
        refine mm_T.br (c := (o741.2 85 y1.toNatClampNeg) = y2) (a := ((70, [some (.ref 62), some (.int y1), some (.int y2), some (.int y3), some (.int y4)], []), (107, o741.2, J, mm_rf rv sp rr w nw))) (b := ((101, [some (.ref 62), some (.int y1), some (.int y2), some (.int y3), some (.int y4)], []), (107, o741.2, J, mm_rf rv sp rr w nw))) rfl (fun h744 => ?_) (fun h744 => ?_)
        · rw [if_pos h744] at e
          refine mm_T.seg (f' := (73, [some (.ref 62), some (.int y1), some (.int y2), some (.int y3), some (.int y4)], [(.int y1), (.ref 62), (.ref 62)])) (h' := (107, o741.2, J, mm_rf rv sp rr w nw)) 3 rfl ?_
          obtain ⟨o745, eo745, e⟩ := mm_bind e
          refine mm_T.call (t := 278) (as := [(.ref 62), (.int y1)]) (f' := (76, [some (.ref 62), some (.int y1), some (.int y2), some (.int y3), some (.int y4)], [(.ref 62)])) rfl (tX12_leftOf (d + 4) y1 o741.2 J rv sp rr w nw o745 eo745) (fun v h hq => ?_)
          obtain ⟨rfl, rfl⟩ := hq
          obtain ⟨o746, eo746, e⟩ := mm_bind e
          refine mm_T.call (t := 287) (as := [(.ref 62), (.int o745)]) (f' := (79, [some (.ref 62), some (.int y1), some (.int y2), some (.int y3), some (.int y4)], [])) rfl (tX12_turned (d + 3) n o745 o741.2 J rv sp rr w nw o746 eo746) (fun v h hq => ?_)
          obtain ⟨rfl, rfl⟩ := hq
          refine mm_T.seg (f' := (80, [some (.ref 62), some (.int y1), some (.int y2), some (.int y3), some (.int y4)], [(.int y3), (.int o746)])) (h' := (107, o741.2, J, mm_rf rv sp rr w nw)) 1 rfl ?_
          refine mm_T.br (c := o746 < y3) (a := ((86, [some (.ref 62), some (.int y1), some (.int y2), some (.int y3), some (.int y4)], []), (107, o741.2, J, mm_rf rv sp rr w nw))) (b := ((83, [some (.ref 62), some (.int y1), some (.int y2), some (.int y3), some (.int y4)], []), (107, o741.2, J, mm_rf rv sp rr w nw))) rfl (fun h747 => ?_) (fun h747 => ?_)
          · rw [if_pos h747] at e
            refine mm_T.seg (f' := (89, [some (.ref 62), some (.int y1), some (.int y2), some (.int y3), some (.int y4)], [(.int y1), (.ref 62), (.ref 62)])) (h' := (107, o741.2, J, mm_rf rv sp rr w nw)) 3 rfl ?_
            obtain ⟨o748, eo748, e⟩ := mm_bind e
            refine mm_T.call (t := 278) (as := [(.ref 62), (.int y1)]) (f' := (92, [some (.ref 62), some (.int y1), some (.int y2), some (.int y3), some (.int y4)], [(.ref 62)])) rfl (tX12_leftOf (d + 4) y1 o741.2 J rv sp rr w nw o748 eo748) (fun v h hq => ?_)
            obtain ⟨rfl, rfl⟩ := hq
            obtain ⟨o749, eo749, e⟩ := mm_bind e
            refine mm_T.call (t := 287) (as := [(.ref 62), (.int o748)]) (f' := (95, [some (.ref 62), some (.int y1), some (.int y2), some (.int y3), some (.int y4)], [])) rfl (tX12_turned (d + 3) n o748 o741.2 J rv sp rr w nw o749 eo749) (fun v h hq => ?_)
            obtain ⟨rfl, rfl⟩ := hq
            refine mm_T.seg (f' := (98, [some (.ref 62), some (.int y1), some (.int y2), some (.int o749), some (.int y4)], [(.int y1), (.ref 62)])) (h' := (107, o741.2, J, mm_rf rv sp rr w nw)) 3 rfl ?_
            obtain ⟨o750, eo750, e⟩ := mm_bind e
            refine mm_T.call (t := 280) (as := [(.ref 62), (.int y1)]) (f' := (101, [some (.ref 62), some (.int y1), some (.int y2), some (.int o749), some (.int y4)], [])) rfl (tX12_putSteers (d + 3) n y1 o741.2 J rv sp rr w nw o750 eo750) (fun v h hq => ?_)
            obtain ⟨rfl, rfl⟩ := hq
            refine mm_T.seg (f' := (36, [some (.ref 62), some (.int y1), some (.int y2), some (.int o749), some (.int (y4 + 1))], [])) (h' := (107, o750, J, mm_rf rv sp rr w nw)) 2 rfl ?_
            refine mm_T.mask [true, true, true, true, true] ?_
            exact ih y1 y2 o749 (y4 + 1) o750 J rv sp rr w nw out e k
          · rw [if_neg h747] at e
            refine mm_T.seg (f' := (36, [some (.ref 62), some (.int y1), some (.int y2), some (.int y3), some (.int (y4 + 1))], [])) (h' := (107, o741.2, J, mm_rf rv sp rr w nw)) 3 rfl ?_
            refine mm_T.mask [true, true, true, true, true] ?_
            exact ih y1 y2 y3 (y4 + 1) o741.2 J rv sp rr w nw out e k
        · rw [if_neg h744] at e
          refine mm_T.seg (f' := (36, [some (.ref 62), some (.int y1), some (.int y2), some (.int y3), some (.int (y4 + 1))], [])) (h' := (107, o741.2, J, mm_rf rv sp rr w nw)) 2 rfl ?_
          refine mm_T.mask [true, true, true, true, true] ?_
          exact ih y1 y2 y3 (y4 + 1) o741.2 J rv sp rr w nw out e k
    · rw [if_neg h740] at e
      cases e
      refine mm_T.mask [false, false, false, true, false] ?_
      exact k
set_option maxRecDepth 100000 in
set_option maxHeartbeats 4000000 in
theorem tX12_straight (d n : Nat) (x1 : Int32) (x2 : Int32) (I : Nat → Nat → Int32) (J : Nat → Nat → Int64) (rv sp rr w nw : Nat) (out : Int32 × (Nat → Nat → Int32)) (e : fX12_straight n x1 x2 I = some out) : mm_T none (d + 5) 288 (mm_ent 288 [(.ref 62), (.int x1), (.int x2)]) (107, I, J, mm_rf rv sp rr w nw) (fun v h => v = some (.int out.1) ∧ h = (107, out.2, J, mm_rf rv sp rr w nw)) := by
  unfold fX12_straight at e
  refine mm_T.seg (f' := (7, [some (.ref 62), some (.int x1), some (.int x2), none, none], [(.int x1), (.ref 62)])) (h' := (107, (mm_up I 62 61 0), J, mm_rf rv sp rr w nw)) 5 rfl ?_
  obtain ⟨o735, eo735, e⟩ := mm_bind e
  refine mm_T.call (t := 253) (as := [(.ref 62), (.int x1)]) (f' := (10, [some (.ref 62), some (.int x1), some (.int x2), none, none], [])) rfl (tX12_isBoard (d + 3) x1 (mm_up I 62 61 0) J rv sp rr w nw o735 eo735) (fun v h hq => ?_)
  obtain ⟨rfl, rfl⟩ := hq
  refine mm_T.br (c := o735 = 0) (a := ((27, [some (.ref 62), some (.int x1), some (.int x2), none, none], []), (107, (mm_up I 62 61 0), J, mm_rf rv sp rr w nw))) (b := ((13, [some (.ref 62), some (.int x1), some (.int x2), none, none], []), (107, (mm_up I 62 61 0), J, mm_rf rv sp rr w nw))) rfl (fun h736 => ?_) (fun h736 => ?_)
  · rw [if_pos h736] at e
    refine mm_T.seg (f' := (28, [some (.ref 62), some (.int x1), some (.int x2), none, none], [(.int (-1))])) (h' := (107, (mm_up I 62 61 0), J, mm_rf rv sp rr w nw)) 1 rfl ?_
    cases e
    exact mm_T.ret rfl ⟨rfl, rfl⟩
  · rw [if_neg h736] at e
    refine mm_T.seg (f' := (21, [some (.ref 62), some (.int x1), some (.int x2), none, none], [(.int ((I 62 46) - 1)), (.int 0), (.int x2)])) (h' := (107, (mm_up I 62 61 0), J, mm_rf rv sp rr w nw)) 6 rfl ?_
    obtain ⟨g143, hg143⟩ : ∃ z, fX12_isIn x2 0 ((I 62 46) - 1) = z := ⟨_, rfl⟩
    try rw [hg143] at e
    refine mm_T.call (t := 252) (as := [(.int x2), (.int 0), (.int ((I 62 46) - 1))]) (f' := (24, [some (.ref 62), some (.int x1), some (.int x2), none, none], [])) rfl (tX12_isIn (d + 4) x2 0 ((I 62 46) - 1) (mm_up I 62 61 0) J rv sp rr w nw g143 hg143) (fun v h hq => ?_)
    obtain ⟨rfl, rfl⟩ := hq
    refine mm_T.br (c := g143 = 0) (a := ((27, [some (.ref 62), some (.int x1), some (.int x2), none, none], []), (107, (mm_up I 62 61 0), J, mm_rf rv sp rr w nw))) (b := ((29, [some (.ref 62), some (.int x1), some (.int x2), none, none], []), (107, (mm_up I 62 61 0), J, mm_rf rv sp rr w nw))) rfl (fun h737 => ?_) (fun h737 => ?_)
    · rw [if_pos h737] at e
      refine mm_T.seg (f' := (28, [some (.ref 62), some (.int x1), some (.int x2), none, none], [(.int (-1))])) (h' := (107, (mm_up I 62 61 0), J, mm_rf rv sp rr w nw)) 1 rfl ?_
      cases e
      exact mm_T.ret rfl ⟨rfl, rfl⟩
    · rw [if_neg h737] at e
      refine mm_T.seg (f' := (36, [some (.ref 62), some (.int x1), some (.int x2), some (.int 1000000), some (.int 0)], [])) (h' := (107, (mm_up I 62 61 0), J, mm_rf rv sp rr w nw)) 4 rfl ?_
      refine mm_T.mask [true, true, true, true, true] ?_
      obtain ⟨o751, eo751, e⟩ := mm_bind e
      refine tlX12_straight_L36 d _ n x1 x2 1000000 0 (mm_up I 62 61 0) J rv sp rr w nw o751 eo751 ?_
      refine mm_T.seg (f' := (111, [none, none, none, some (.int o751.1), none], [(.int 1000000), (.int o751.1)])) (h' := (107, o751.2, J, mm_rf rv sp rr w nw)) 2 rfl ?_
      refine mm_T.br (c := o751.1 = 1000000) (a := ((114, [none, none, none, some (.int o751.1), none], []), (107, o751.2, J, mm_rf rv sp rr w nw))) (b := ((118, [none, none, none, some (.int o751.1), none], []), (107, o751.2, J, mm_rf rv sp rr w nw))) rfl (fun h752 => ?_) (fun h752 => ?_)
      · rw [if_pos h752] at e
        refine mm_T.seg (f' := (119, [none, none, none, some (.int o751.1), none], [(.int (-1))])) (h' := (107, o751.2, J, mm_rf rv sp rr w nw)) 2 rfl ?_
        cases e
        exact mm_T.ret rfl ⟨rfl, rfl⟩
      · rw [if_neg h752] at e
        refine mm_T.seg (f' := (119, [none, none, none, some (.int o751.1), none], [(.int o751.1)])) (h' := (107, o751.2, J, mm_rf rv sp rr w nw)) 1 rfl ?_
        cases e
        exact mm_T.ret rfl ⟨rfl, rfl⟩
set_option maxRecDepth 100000 in
set_option maxHeartbeats 4000000 in
theorem tlX12_wideOf_L4 (d : Nat) (Q : Option Value → mm_H → Prop) : ∀ (n : Nat) (y1 : Int32) (y2 : Int32) (y3 : Int32) (I : Nat → Nat → Int32) (J : Nat → Nat → Int64) (rv sp rr w nw : Nat), ∀ (out : Int32), fX12_wideOf_L4 n y1 y2 y3 I = some out → mm_T none (d + 0) 289 (40, [none, none, some (.int out), none], []) (107, I, J, mm_rf rv sp rr w nw) Q → mm_T none (d + 0) 289 (4, [some (.ref 62), some (.int y1), some (.int y2), some (.int y3)], []) (107, I, J, mm_rf rv sp rr w nw) Q := by
  intro n
  induction n with
  | zero =>
    intro y1 y2 y3 I J rv sp rr w nw out e k
    rw [fX12_wideOf_L4] at e; cases e
  | succ n ih =>
    intro y1 y2 y3 I J rv sp rr w nw out e k
    rw [fX12_wideOf_L4] at e
    refine mm_T.seg (f' := (9, [some (.ref 62), some (.int y1), some (.int y2), some (.int y3)], [(.int (I 62 49)), (.int y3)])) (h' := (107, I, J, mm_rf rv sp rr w nw)) 3 rfl ?_
    refine mm_T.br (c := y3 < (I 62 49)) (a := ((12, [some (.ref 62), some (.int y1), some (.int y2), some (.int y3)], []), (107, I, J, mm_rf rv sp rr w nw))) (b := ((40, [some (.ref 62), some (.int y1), some (.int y2), some (.int y3)], []), (107, I, J, mm_rf rv sp rr w nw))) rfl (fun h756 => ?_) (fun h756 => ?_)
    · rw [if_pos h756] at e
      refine mm_T.seg (f' := (19, [some (.ref 62), some (.int y1), some (.int y2), some (.int y3)], [(.int 1), (.int ((y1 >>> (y3 &&& 31)) &&& 1)), (.int y2)])) (h' := (107, I, J, mm_rf rv sp rr w nw)) 7 rfl ?_
      refine mm_T.br (c := ((y1 >>> (y3 &&& 31)) &&& 1) = 1) (a := ((22, [some (.ref 62), some (.int y1), some (.int y2), some (.int y3)], [(.int y2)]), (107, I, J, mm_rf rv sp rr w nw))) (b := ((31, [some (.ref 62), some (.int y1), some (.int y2), some (.int y3)], [(.int y2)]), (107, I, J, mm_rf rv sp rr w nw))) rfl (fun h757 => ?_) (fun h757 => ?_)
      · rw [if_pos h757] at e
        refine mm_T.seg (f' := (26, [some (.ref 62), some (.int y1), some (.int y2), some (.int y3)], [(.ref 83), (.int y2)])) (h' := (107, I, J, mm_rf rv sp rr w nw)) 2 rfl ?_
        refine mm_T.seg (f' := (27, [some (.ref 62), some (.int y1), some (.int y2), some (.int y3)], [(.int y3), (.ref 83), (.int y2)])) (h' := (107, I, J, mm_rf rv sp rr w nw)) 1 rfl ?_
        by_cases h758 : y3 < 0 ∨ 7 ≤ y3.toNatClampNeg
        · rw [if_pos h758] at e; cases e
        rw [if_neg h758] at e
        refine mm_T.guard (y := ((28, [some (.ref 62), some (.int y1), some (.int y2), some (.int y3)], [(.int (I 83 y3.toNatClampNeg)), (.int y2)]), (107, I, J, mm_rf rv sp rr w nw))) rfl h758 ?_
        refine mm_T.seg (f' := (4, [some (.ref 62), some (.int y1), some (.int (y2 + (I 83 y3.toNatClampNeg))), some (.int (y3 + 1))], [])) (h' := (107, I, J, mm_rf rv sp rr w nw)) 5 rfl ?_
        refine mm_T.mask [true, true, true, true] ?_
        exact ih y1 (y2 + (I 83 y3.toNatClampNeg)) (y3 + 1) I J rv sp rr w nw out e k
      · rw [if_neg h757] at e
        refine mm_T.seg (f' := (4, [some (.ref 62), some (.int y1), some (.int (y2 + 0)), some (.int (y3 + 1))], [])) (h' := (107, I, J, mm_rf rv sp rr w nw)) 5 rfl ?_
        refine mm_T.mask [true, true, true, true] ?_
        exact ih y1 (y2 + 0) (y3 + 1) I J rv sp rr w nw out e k
    · rw [if_neg h756] at e
      cases e
      refine mm_T.mask [false, false, true, false] ?_
      exact k
set_option maxRecDepth 100000 in
set_option maxHeartbeats 4000000 in
theorem tX12_wideOf (d n : Nat) (x1 : Int32) (I : Nat → Nat → Int32) (J : Nat → Nat → Int64) (rv sp rr w nw : Nat) (out : Int32) (e : fX12_wideOf n x1 I = some out) : mm_T none (d + 0) 289 (mm_ent 289 [(.ref 62), (.int x1)]) (107, I, J, mm_rf rv sp rr w nw) (fun v h => v = some (.int out) ∧ h = (107, I, J, mm_rf rv sp rr w nw)) := by
  unfold fX12_wideOf at e
  refine mm_T.seg (f' := (4, [some (.ref 62), some (.int x1), some (.int 0), some (.int 0)], [])) (h' := (107, I, J, mm_rf rv sp rr w nw)) 4 rfl ?_
  refine mm_T.mask [true, true, true, true] ?_
  obtain ⟨o759, eo759, e⟩ := mm_bind e
  refine tlX12_wideOf_L4 d _ n x1 0 0 I J rv sp rr w nw o759 eo759 ?_
  refine mm_T.seg (f' := (41, [none, none, some (.int o759), none], [(.int o759)])) (h' := (107, I, J, mm_rf rv sp rr w nw)) 1 rfl ?_
  cases e
  exact mm_T.ret rfl ⟨rfl, rfl⟩
set_option maxRecDepth 100000 in
set_option maxHeartbeats 4000000 in
theorem tlX12_widest_L54 (d : Nat) (Q : Option Value → mm_H → Prop) : ∀ (n : Nat) (y1 : Int32) (y2 : Int32) (y3 : Int32) (y4 : Int32) (y5 : Int32) (I : Nat → Nat → Int32) (J : Nat → Nat → Int64) (rv sp rr w nw : Nat), ∀ (out : Int32), fX12_widest_L54 n y1 y2 y3 y4 y5 I = some out → mm_T none (d + 2) 290 (115, [some (.ref 62), none, some (.int y2), none, some (.int out), none], []) (107, I, J, mm_rf rv sp rr w nw) Q → mm_T none (d + 2) 290 (54, [some (.ref 62), some (.int y1), some (.int y2), some (.int y3), some (.int y4), some (.int y5)], []) (107, I, J, mm_rf rv sp rr w nw) Q := by
  intro n
  induction n with
  | zero =>
    intro y1 y2 y3 y4 y5 I J rv sp rr w nw out e k
    rw [fX12_widest_L54] at e; cases e
  | succ n ih =>
    intro y1 y2 y3 y4 y5 I J rv sp rr w nw out e k
    rw [fX12_widest_L54] at e
    refine mm_T.seg (f' := (57, [some (.ref 62), some (.int y1), some (.int y2), some (.int y3), some (.int y4), some (.int y5)], [(.int y3), (.int y5)])) (h' := (107, I, J, mm_rf rv sp rr w nw)) 2 rfl ?_
    refine mm_T.br (c := y3 < y5) (a := ((115, [some (.ref 62), some (.int y1), some (.int y2), some (.int y3), some (.int y4), some (.int y5)], []), (107, I, J, mm_rf rv sp rr w nw))) (b := ((60, [some (.ref 62), some (.int y1), some (.int y2), some (.int y3), some (.int y4), some (.int y5)], []), (107, I, J, mm_rf rv sp rr w nw))) rfl (fun h777 => ?_) (fun h777 => ?_)
    · rw [if_pos h777] at e
      cases e
      refine mm_T.mask [true, false, true, false, true, false] ?_
      exact k
    · rw [if_neg h777] at e
      refine mm_T.seg (f' := (66, [some (.ref 62), some (.int y1), some (.int y2), some (.int y3), some (.int y4), some (.int y5)], [(.int (y5 &&& (y3 ^^^ (-1))))])) (h' := (107, I, J, mm_rf rv sp rr w nw)) 5 rfl ?_
      refine mm_T.br (c := (y5 &&& (y3 ^^^ (-1))) = 0) (a := ((69, [some (.ref 62), some (.int y1), some (.int y2), some (.int y3), some (.int y4), some (.int y5)], []), (107, I, J, mm_rf rv sp rr w nw))) (b := ((109, [some (.ref 62), some (.int y1), some (.int y2), some (.int y3), some (.int y4), some (.int y5)], []), (107, I, J, mm_rf rv sp rr w nw))) rfl (fun h778 => ?_) (fun h778 => ?_)
      · rw [if_pos h778] at e
        refine mm_T.seg (f' := (71, [some (.ref 62), some (.int y1), some (.int y2), some (.int y3), some (.int y4), some (.int y5)], [(.int y1), (.ref 62)])) (h' := (107, I, J, mm_rf rv sp rr w nw)) 2 rfl ?_
        obtain ⟨o779, eo779, e⟩ := mm_bind e
        refine mm_T.call (t := 240) (as := [(.ref 62), (.int y1)]) (f' := (74, [some (.ref 62), some (.int y1), some (.int y2), some (.int y3), some (.int y4), some (.int y5)], [])) rfl (tX12_burdenOf (d + 1) n y1 I J rv sp rr w nw o779 eo779) (fun v h hq => ?_)
        obtain ⟨rfl, rfl⟩ := hq
        refine mm_T.seg (f' := (77, [some (.ref 62), some (.int y1), some (.int y2), some (.int y3), some (.int y4), some (.int y5)], [(.int y5), (.ref 62), (.int o779)])) (h' := (107, I, J, mm_rf rv sp rr w nw)) 2 rfl ?_
        obtain ⟨o780, eo780, e⟩ := mm_bind e
        refine mm_T.call (t := 289) (as := [(.ref 62), (.int y5)]) (f' := (80, [some (.ref 62), some (.int y1), some (.int y2), some (.int y3), some (.int y4), some (.int y5)], [(.int o779)])) rfl (tX12_wideOf (d + 1) n y5 I J rv sp rr w nw o780 eo780) (fun v h hq => ?_)
        obtain ⟨rfl, rfl⟩ := hq
        refine mm_T.seg (f' := (85, [some (.ref 62), some (.int y1), some (.int y2), some (.int y3), some (.int y4), some (.int y5)], [(.ref 80), (.int (o779 + o780))])) (h' := (107, I, J, mm_rf rv sp rr w nw)) 3 rfl ?_
        refine mm_T.seg (f' := (86, [some (.ref 62), some (.int y1), some (.int y2), some (.int y3), some (.int y4), some (.int y5)], [(.int y1), (.ref 80), (.int (o779 + o780))])) (h' := (107, I, J, mm_rf rv sp rr w nw)) 1 rfl ?_
        by_cases h781 : y1 < 0 ∨ 4 ≤ y1.toNatClampNeg
        · rw [if_pos h781] at e; cases e
        rw [if_neg h781] at e
        refine mm_T.guard (y := ((87, [some (.ref 62), some (.int y1), some (.int y2), some (.int y3), some (.int y4), some (.int y5)], [(.int (I 80 y1.toNatClampNeg)), (.int (o779 + o780))]), (107, I, J, mm_rf rv sp rr w nw))) rfl h781 ?_
        refine mm_T.br (c := (I 80 y1.toNatClampNeg) < (o779 + o780)) (a := ((109, [some (.ref 62), some (.int y1), some (.int y2), some (.int y3), some (.int y4), some (.int y5)], []), (107, I, J, mm_rf rv sp rr w nw))) (b := ((90, [some (.ref 62), some (.int y1), some (.int y2), some (.int y3), some (.int y4), some (.int y5)], []), (107, I, J, mm_rf rv sp rr w nw))) rfl (fun h782 => ?_) (fun h782 => ?_)
        · rw [if_pos h782] at e
          refine mm_T.seg (f' := (54, [some (.ref 62), some (.int y1), some (.int y2), some (.int y3), some (.int y4), some (.int (y5 + 1))], [])) (h' := (107, I, J, mm_rf rv sp rr w nw)) 2 rfl ?_
          refine mm_T.mask [true, true, true, true, true, true] ?_
          exact ih y1 y2 y3 y4 (y5 + 1) I J rv sp rr w nw out e k
        · rw [if_neg h782] at e
          refine mm_T.seg (f' := (93, [some (.ref 62), some (.int y1), some (.int y2), some (.int y3), some (.int y4), some (.int y5)], [(.int y5), (.ref 62)])) (h' := (107, I, J, mm_rf rv sp rr w nw)) 2 rfl ?_
          obtain ⟨o783, eo783, e⟩ := mm_bind e
          refine mm_T.call (t := 289) (as := [(.ref 62), (.int y5)]) (f' := (96, [some (.ref 62), some (.int y1), some (.int y2), some (.int y3), some (.int y4), some (.int y5)], [])) rfl (tX12_wideOf (d + 1) n y5 I J rv sp rr w nw o783 eo783) (fun v h hq => ?_)
          obtain ⟨rfl, rfl⟩ := hq
          refine mm_T.seg (f' := (99, [some (.ref 62), some (.int y1), some (.int y2), some (.int y3), some (.int y4), some (.int y5)], [(.int y4), (.ref 62), (.int o783)])) (h' := (107, I, J, mm_rf rv sp rr w nw)) 2 rfl ?_
          obtain ⟨o784, eo784, e⟩ := mm_bind e
          refine mm_T.call (t := 289) (as := [(.ref 62), (.int y4)]) (f' := (102, [some (.ref 62), some (.int y1), some (.int y2), some (.int y3), some (.int y4), some (.int y5)], [(.int o783)])) rfl (tX12_wideOf (d + 1) n y4 I J rv sp rr w nw o784 eo784) (fun v h hq => ?_)
          obtain ⟨rfl, rfl⟩ := hq
          refine mm_T.br (c := o784 < o783) (a := ((105, [some (.ref 62), some (.int y1), some (.int y2), some (.int y3), some (.int y4), some (.int y5)], []), (107, I, J, mm_rf rv sp rr w nw))) (b := ((109, [some (.ref 62), some (.int y1), some (.int y2), some (.int y3), some (.int y4), some (.int y5)], []), (107, I, J, mm_rf rv sp rr w nw))) rfl (fun h785 => ?_) (fun h785 => ?_)
          · rw [if_pos h785] at e
            refine mm_T.seg (f' := (54, [some (.ref 62), some (.int y1), some (.int y2), some (.int y3), some (.int y5), some (.int (y5 + 1))], [])) (h' := (107, I, J, mm_rf rv sp rr w nw)) 4 rfl ?_
            refine mm_T.mask [true, true, true, true, true, true] ?_
            exact ih y1 y2 y3 y5 (y5 + 1) I J rv sp rr w nw out e k
          · rw [if_neg h785] at e
            refine mm_T.seg (f' := (54, [some (.ref 62), some (.int y1), some (.int y2), some (.int y3), some (.int y4), some (.int (y5 + 1))], [])) (h' := (107, I, J, mm_rf rv sp rr w nw)) 2 rfl ?_
            refine mm_T.mask [true, true, true, true, true, true] ?_
            exact ih y1 y2 y3 y4 (y5 + 1) I J rv sp rr w nw out e k
      · rw [if_neg h778] at e
        refine mm_T.seg (f' := (54, [some (.ref 62), some (.int y1), some (.int y2), some (.int y3), some (.int y4), some (.int (y5 + 1))], [])) (h' := (107, I, J, mm_rf rv sp rr w nw)) 2 rfl ?_
        refine mm_T.mask [true, true, true, true, true, true] ?_
        exact ih y1 y2 y3 y4 (y5 + 1) I J rv sp rr w nw out e k
set_option maxRecDepth 100000 in
set_option maxHeartbeats 4000000 in
theorem tX12_widest (d n : Nat) (x1 : Int32) (x2 : Int32) (I : Nat → Nat → Int32) (J : Nat → Nat → Int64) (rv sp rr w nw : Nat) (out : Int32 × (Nat → Nat → Int32)) (e : fX12_widest n x1 x2 I = some out) : mm_T none (d + 2) 290 (mm_ent 290 [(.ref 62), (.int x1), (.int x2)]) (107, I, J, mm_rf rv sp rr w nw) (fun v h => v = some (.int out.1) ∧ h = (107, out.2, J, mm_rf rv sp rr w nw)) := by
  unfold fX12_widest at e
  refine mm_T.seg (f' := (2, [some (.ref 62), some (.int x1), some (.int x2), none, none, none], [(.int x1), (.ref 62)])) (h' := (107, I, J, mm_rf rv sp rr w nw)) 2 rfl ?_
  obtain ⟨o760, eo760, e⟩ := mm_bind e
  refine mm_T.call (t := 253) (as := [(.ref 62), (.int x1)]) (f' := (5, [some (.ref 62), some (.int x1), some (.int x2), none, none, none], [])) rfl (tX12_isBoard (d + 0) x1 I J rv sp rr w nw o760 eo760) (fun v h hq => ?_)
  obtain ⟨rfl, rfl⟩ := hq
  refine mm_T.br (c := o760 = 0) (a := ((25, [some (.ref 62), some (.int x1), some (.int x2), none, none, none], []), (107, I, J, mm_rf rv sp rr w nw))) (b := ((8, [some (.ref 62), some (.int x1), some (.int x2), none, none, none], []), (107, I, J, mm_rf rv sp rr w nw))) rfl (fun h761 => ?_) (fun h761 => ?_)
  · rw [if_pos h761] at e
    refine mm_T.seg (f' := (26, [some (.ref 62), some (.int x1), some (.int x2), none, none, none], [(.int (-1))])) (h' := (107, I, J, mm_rf rv sp rr w nw)) 1 rfl ?_
    cases e
    exact mm_T.ret rfl ⟨rfl, rfl⟩
  · rw [if_neg h761] at e
    refine mm_T.seg (f' := (10, [some (.ref 62), some (.int x1), some (.int x2), none, none, none], [(.int x1), (.ref 62)])) (h' := (107, I, J, mm_rf rv sp rr w nw)) 2 rfl ?_
    obtain ⟨o762, eo762, e⟩ := mm_bind e
    refine mm_T.call (t := 270) (as := [(.ref 62), (.int x1)]) (f' := (13, [some (.ref 62), some (.int x1), some (.int x2), none, none, none], [])) rfl (tX12_isAtBank (d + 1) x1 I J rv sp rr w nw o762 eo762) (fun v h hq => ?_)
    obtain ⟨rfl, rfl⟩ := hq
    refine mm_T.br (c := o762 = 0) (a := ((25, [some (.ref 62), some (.int x1), some (.int x2), none, none, none], []), (107, I, J, mm_rf rv sp rr w nw))) (b := ((16, [some (.ref 62), some (.int x1), some (.int x2), none, none, none], []), (107, I, J, mm_rf rv sp rr w nw))) rfl (fun h763 => ?_) (fun h763 => ?_)
    · rw [if_pos h763] at e
      refine mm_T.seg (f' := (26, [some (.ref 62), some (.int x1), some (.int x2), none, none, none], [(.int (-1))])) (h' := (107, I, J, mm_rf rv sp rr w nw)) 1 rfl ?_
      cases e
      exact mm_T.ret rfl ⟨rfl, rfl⟩
    · rw [if_neg h763] at e
      refine mm_T.seg (f' := (19, [some (.ref 62), some (.int x1), some (.int x2), none, none, none], [(.int 1), (.int 0), (.int x2)])) (h' := (107, I, J, mm_rf rv sp rr w nw)) 3 rfl ?_
      obtain ⟨g144, hg144⟩ : ∃ z, fX12_isIn x2 0 1 = z := ⟨_, rfl⟩
      try rw [hg144] at e
      refine mm_T.call (t := 252) (as := [(.int x2), (.int 0), (.int 1)]) (f' := (22, [some (.ref 62), some (.int x1), some (.int x2), none, none, none], [])) rfl (tX12_isIn (d + 1) x2 0 1 I J rv sp rr w nw g144 hg144) (fun v h hq => ?_)
      obtain ⟨rfl, rfl⟩ := hq
      refine mm_T.br (c := g144 = 0) (a := ((25, [some (.ref 62), some (.int x1), some (.int x2), none, none, none], []), (107, I, J, mm_rf rv sp rr w nw))) (b := ((27, [some (.ref 62), some (.int x1), some (.int x2), none, none, none], []), (107, I, J, mm_rf rv sp rr w nw))) rfl (fun h764 => ?_) (fun h764 => ?_)
      · rw [if_pos h764] at e
        refine mm_T.seg (f' := (26, [some (.ref 62), some (.int x1), some (.int x2), none, none, none], [(.int (-1))])) (h' := (107, I, J, mm_rf rv sp rr w nw)) 1 rfl ?_
        cases e
        exact mm_T.ret rfl ⟨rfl, rfl⟩
      · rw [if_neg h764] at e
        refine mm_T.seg (f' := (28, [some (.ref 62), some (.int x1), some (.int x2), none, none, none], [(.ref 62)])) (h' := (107, I, J, mm_rf rv sp rr w nw)) 1 rfl ?_
        obtain ⟨o765, eo765, e⟩ := mm_bind e
        refine mm_T.call (t := 256) (as := [(.ref 62)]) (f' := (31, [some (.ref 62), some (.int x1), some (.int x2), none, none, none], [])) rfl (tX12_fill (d + 1) n I J rv sp rr w nw o765 eo765) (fun v h hq => ?_)
        obtain ⟨rfl, rfl⟩ := hq
        refine mm_T.seg (f' := (37, [some (.ref 62), some (.int x1), some (.int x2), none, none, none], [(.ref 84), (.ref 62), (.ref 62)])) (h' := (107, o765, J, mm_rf rv sp rr w nw)) 4 rfl ?_
        refine mm_T.seg (f' := (40, [some (.ref 62), some (.int x1), some (.int x2), none, none, none], [(.int (4 + x1)), (.ref 84), (.ref 62), (.ref 62)])) (h' := (107, o765, J, mm_rf rv sp rr w nw)) 3 rfl ?_
        by_cases h766 : (4 + x1) < 0 ∨ 28 ≤ (4 + x1).toNatClampNeg
        · rw [if_pos h766] at e; cases e
        rw [if_neg h766] at e
        refine mm_T.guard (c := (4 + x1) < 0 ∨ 28 ≤ (4 + x1).toNatClampNeg) (y := ((41, [some (.ref 62), some (.int x1), some (.int x2), none, none, none], [(.int (o765 84 (4 + x1).toNatClampNeg)), (.ref 62), (.ref 62)]), (107, o765, J, mm_rf rv sp rr w nw))) (mm_gen (P := fun z => mm_stp none 290 (40, [some (.ref 62), some (.int x1), some (.int x2), none, none, none], [(.int z), (.ref 84), (.ref 62), (.ref 62)]) (107, o765, J, mm_rf rv sp rr w nw) = if z < 0 ∨ 28 ≤ z.toNatClampNeg then none else some (.inl ((41, [some (.ref 62), some (.int x1), some (.int x2), none, none, none], [(.int (o765 84 z.toNatClampNeg)), (.ref 62), (.ref 62)]), (107, o765, J, mm_rf rv sp rr w nw)))) (4 + x1) (fun z => rfl)) h766 ?_
        obtain ⟨g145, hg145⟩ : ∃ z, fX12_bankOf (o765 84 (4 + x1).toNatClampNeg) = z := ⟨_, rfl⟩
        try rw [hg145] at e
        refine mm_T.call (t := 271) (as := [(.ref 62), (.int (o765 84 (4 + x1).toNatClampNeg))]) (f' := (44, [some (.ref 62), some (.int x1), some (.int x2), none, none, none], [(.ref 62)])) rfl (tX12_bankOf (d + 1) (o765 84 (4 + x1).toNatClampNeg) o765 J rv sp rr w nw g145 hg145) (fun v h hq => ?_)
        obtain ⟨rfl, rfl⟩ := hq
        obtain ⟨o767, eo767, e⟩ := mm_bind e
        refine mm_T.call (t := 262) (as := [(.ref 62), (.int g145)]) (f' := (47, [some (.ref 62), some (.int x1), some (.int x2), none, none, none], [])) rfl (tX12_loadsAt (d + 0) n g145 o765 J rv sp rr w nw o767 eo767) (fun v h hq => ?_)
        obtain ⟨rfl, rfl⟩ := hq
        refine mm_T.seg (f' := (54, [some (.ref 62), some (.int x1), some (.int x2), some (.int o767), some (.int 0), some (.int 1)], [])) (h' := (107, o765, J, mm_rf rv sp rr w nw)) 5 rfl ?_
        refine mm_T.mask [true, true, true, true, true, true] ?_
        obtain ⟨o786, eo786, e⟩ := mm_bind e
        refine tlX12_widest_L54 d _ n x1 x2 o767 0 1 o765 J rv sp rr w nw o786 eo786 ?_
        refine mm_T.seg (f' := (116, [some (.ref 62), none, some (.int x2), none, some (.int o786), none], [(.int x2)])) (h' := (107, o765, J, mm_rf rv sp rr w nw)) 1 rfl ?_
        refine mm_T.br (c := x2 = 0) (a := ((119, [some (.ref 62), none, some (.int x2), none, some (.int o786), none], []), (107, o765, J, mm_rf rv sp rr w nw))) (b := ((128, [some (.ref 62), none, some (.int x2), none, some (.int o786), none], []), (107, o765, J, mm_rf rv sp rr w nw))) rfl (fun h787 => ?_) (fun h787 => ?_)
        · rw [if_pos h787] at e
          refine mm_T.seg (f' := (122, [some (.ref 62), none, some (.int x2), none, some (.int o786), none], [(.int o786), (.ref 62)])) (h' := (107, o765, J, mm_rf rv sp rr w nw)) 2 rfl ?_
          obtain ⟨o788, eo788, e⟩ := mm_bind e
          refine mm_T.call (t := 289) (as := [(.ref 62), (.int o786)]) (f' := (125, [some (.ref 62), none, some (.int x2), none, some (.int o786), none], [])) rfl (tX12_wideOf (d + 1) n o786 o765 J rv sp rr w nw o788 eo788) (fun v h hq => ?_)
          obtain ⟨rfl, rfl⟩ := hq
          refine mm_T.seg (f' := (130, [some (.ref 62), none, some (.int x2), none, some (.int o786), none], [(.int o788)])) (h' := (107, o765, J, mm_rf rv sp rr w nw)) 1 rfl ?_
          cases e
          exact mm_T.ret rfl ⟨rfl, rfl⟩
        · rw [if_neg h787] at e
          refine mm_T.seg (f' := (130, [some (.ref 62), none, some (.int x2), none, some (.int o786), none], [(.int o786)])) (h' := (107, o765, J, mm_rf rv sp rr w nw)) 1 rfl ?_
          cases e
          exact mm_T.ret rfl ⟨rfl, rfl⟩
set_option maxRecDepth 100000 in
set_option maxHeartbeats 4000000 in
theorem tX12_nearLoads (d n : Nat) (I : Nat → Nat → Int32) (J : Nat → Nat → Int64) (rv sp rr w nw : Nat) (out : Int32 × (Nat → Nat → Int32)) (e : fX12_nearLoads n I = some out) : mm_T none (d + 2) 291 (mm_ent 291 [(.ref 62)]) (107, I, J, mm_rf rv sp rr w nw) (fun v h => v = some (.int out.1) ∧ h = (107, out.2, J, mm_rf rv sp rr w nw)) := by
  unfold fX12_nearLoads at e
  refine mm_T.seg (f' := (1, [some (.ref 62)], [(.ref 62)])) (h' := (107, I, J, mm_rf rv sp rr w nw)) 1 rfl ?_
  obtain ⟨o789, eo789, e⟩ := mm_bind e
  refine mm_T.call (t := 256) (as := [(.ref 62)]) (f' := (4, [some (.ref 62)], [])) rfl (tX12_fill (d + 1) n I J rv sp rr w nw o789 eo789) (fun v h hq => ?_)
  obtain ⟨rfl, rfl⟩ := hq
  refine mm_T.seg (f' := (6, [some (.ref 62)], [(.int (-1)), (.ref 62)])) (h' := (107, o789, J, mm_rf rv sp rr w nw)) 2 rfl ?_
  obtain ⟨o790, eo790, e⟩ := mm_bind e
  refine mm_T.call (t := 262) (as := [(.ref 62), (.int (-1))]) (f' := (9, [some (.ref 62)], [])) rfl (tX12_loadsAt (d + 0) n (-1) o789 J rv sp rr w nw o790 eo790) (fun v h hq => ?_)
  obtain ⟨rfl, rfl⟩ := hq
  cases e
  exact mm_T.ret rfl ⟨rfl, rfl⟩
set_option maxRecDepth 100000 in
set_option maxHeartbeats 4000000 in
theorem tlX12_isFlat_L2 (d : Nat) (Q : Option Value → mm_H → Prop) : ∀ (n : Nat) (y1 : Int32) (y2 : Int32) (y3 : Int32) (I : Nat → Nat → Int32) (J : Nat → Nat → Int64) (rv sp rr w nw : Nat), ∀ (out : (Nat → Nat → Int32)), fX12_isFlat_L2 n y1 y2 y3 I = some out → mm_T none (d + 0) 292 (21, [some (.ref 62), some (.int y1), some (.int y2), none, none], []) (107, out, J, mm_rf rv sp rr w nw) Q → mm_T none (d + 0) 292 (2, [some (.ref 62), some (.int y1), some (.int y2), some (.int y3), none], []) (107, I, J, mm_rf rv sp rr w nw) Q := by
  intro n
  induction n with
  | zero =>
    intro y1 y2 y3 I J rv sp rr w nw out e k
    rw [fX12_isFlat_L2] at e; cases e
  | succ n ih =>
    intro y1 y2 y3 I J rv sp rr w nw out e k
    rw [fX12_isFlat_L2] at e
    refine mm_T.seg (f' := (5, [some (.ref 62), some (.int y1), some (.int y2), some (.int y3), none], [(.int 8), (.int y3)])) (h' := (107, I, J, mm_rf rv sp rr w nw)) 2 rfl ?_
    refine mm_T.br (c := y3 < 8) (a := ((8, [some (.ref 62), some (.int y1), some (.int y2), some (.int y3), none], []), (107, I, J, mm_rf rv sp rr w nw))) (b := ((21, [some (.ref 62), some (.int y1), some (.int y2), some (.int y3), none], []), (107, I, J, mm_rf rv sp rr w nw))) rfl (fun h791 => ?_) (fun h791 => ?_)
    · rw [if_pos h791] at e
      refine mm_T.seg (f' := (12, [some (.ref 62), some (.int y1), some (.int y2), some (.int y3), none], [(.ref 91)])) (h' := (107, I, J, mm_rf rv sp rr w nw)) 2 rfl ?_
      refine mm_T.seg (f' := (14, [some (.ref 62), some (.int y1), some (.int y2), some (.int y3), none], [(.int 0), (.int y3), (.ref 91)])) (h' := (107, I, J, mm_rf rv sp rr w nw)) 2 rfl ?_
      by_cases h792 : y3 < 0 ∨ 8 ≤ y3.toNatClampNeg
      · rw [if_pos h792] at e; cases e
      rw [if_neg h792] at e
      refine mm_T.guard (y := ((15, [some (.ref 62), some (.int y1), some (.int y2), some (.int y3), none], []), (107, (mm_up I 91 y3.toNatClampNeg 0), J, mm_rf rv sp rr w nw))) rfl h792 ?_
      refine mm_T.seg (f' := (2, [some (.ref 62), some (.int y1), some (.int y2), some (.int (y3 + 1)), none], [])) (h' := (107, (mm_up I 91 y3.toNatClampNeg 0), J, mm_rf rv sp rr w nw)) 2 rfl ?_
      refine mm_T.mask [true, true, true, true, false] ?_
      exact ih y1 y2 (y3 + 1) (mm_up I 91 y3.toNatClampNeg 0) J rv sp rr w nw out e k
    · rw [if_neg h791] at e
      cases e
      refine mm_T.mask [true, true, true, false, false] ?_
      exact k
set_option maxRecDepth 100000 in
set_option maxHeartbeats 4000000 in
theorem tlX12_isFlat_L26 (d : Nat) (Q : Option Value → mm_H → Prop) : ∀ (n : Nat) (y1 : Int32) (y2 : Int32) (y3 : Int32) (y4 : Int32) (I : Nat → Nat → Int32) (J : Nat → Nat → Int64) (rv sp rr w nw : Nat), ∀ (out : Int32 × (Nat → Nat → Int32)), fX12_isFlat_L26 n y1 y2 y3 y4 I = some out → mm_T none (d + 0) 292 (101, [none, none, none, some (.int out.1), none], []) (107, out.2, J, mm_rf rv sp rr w nw) Q → mm_T none (d + 0) 292 (26, [some (.ref 62), some (.int y1), some (.int y2), some (.int y3), some (.int y4)], []) (107, I, J, mm_rf rv sp rr w nw) Q := by
  intro n
  induction n with
  | zero =>
    intro y1 y2 y3 y4 I J rv sp rr w nw out e k
    rw [fX12_isFlat_L26] at e; cases e
  | succ n ih =>
    intro y1 y2 y3 y4 I J rv sp rr w nw out e k
    rw [fX12_isFlat_L26] at e
    refine mm_T.seg (f' := (32, [some (.ref 62), some (.int y1), some (.int y2), some (.int y3), some (.int y4)], [(.int (I 62 49)), (.int y4)])) (h' := (107, I, J, mm_rf rv sp rr w nw)) 3 rfl ?_
    refine mm_T.br (c := y4 < (I 62 49)) (a := ((35, [some (.ref 62), some (.int y1), some (.int y2), some (.int y3), some (.int y4)], []), (107, I, J, mm_rf rv sp rr w nw))) (b := ((101, [some (.ref 62), some (.int y1), some (.int y2), some (.int y3), some (.int y4)], []), (107, I, J, mm_rf rv sp rr w nw))) rfl (fun h794 => ?_) (fun h794 => ?_)
    · rw [if_pos h794] at e
      refine mm_T.seg (f' := (41, [some (.ref 62), some (.int y1), some (.int y2), some (.int y3), some (.int y4)], [(.int ((y1 >>> (y4 &&& 31)) &&& 1))])) (h' := (107, I, J, mm_rf rv sp rr w nw)) 5 rfl ?_
      refine mm_T.br (c := ((y1 >>> (y4 &&& 31)) &&& 1) = 0) (a := ((44, [some (.ref 62), some (.int y1), some (.int y2), some (.int y3), some (.int y4)], []), (107, I, J, mm_rf rv sp rr w nw))) (b := ((47, [some (.ref 62), some (.int y1), some (.int y2), some (.int y3), some (.int y4)], []), (107, I, J, mm_rf rv sp rr w nw))) rfl (fun h795 => ?_) (fun h795 => ?_)
      · rw [if_pos h795] at e
        refine mm_T.seg (f' := (26, [some (.ref 62), some (.int y1), some (.int y2), some (.int y3), some (.int (y4 + 1))], [])) (h' := (107, I, J, mm_rf rv sp rr w nw)) 3 rfl ?_
        refine mm_T.mask [true, true, true, true, true] ?_
        exact ih y1 y2 y3 (y4 + 1) I J rv sp rr w nw out e k
      · rw [if_neg h795] at e
        refine mm_T.seg (f' := (51, [some (.ref 62), some (.int y1), some (.int y2), some (.int y3), some (.int y4)], [(.ref 91)])) (h' := (107, I, J, mm_rf rv sp rr w nw)) 2 rfl ?_
        refine mm_T.seg (f' := (55, [some (.ref 62), some (.int y1), some (.int y2), some (.int y3), some (.int y4)], [(.ref 89), (.ref 91)])) (h' := (107, I, J, mm_rf rv sp rr w nw)) 2 rfl ?_
        refine mm_T.seg (f' := (57, [some (.ref 62), some (.int y1), some (.int y2), some (.int y3), some (.int y4)], [(.int y4), (.ref 89), (.ref 91)])) (h' := (107, I, J, mm_rf rv sp rr w nw)) 1 rfl ?_
        by_cases h796 : y4 < 0 ∨ 7 ≤ y4.toNatClampNeg
        · rw [if_pos h796] at e; cases e
        rw [if_neg h796] at e
        refine mm_T.guard (y := ((58, [some (.ref 62), some (.int y1), some (.int y2), some (.int y3), some (.int y4)], [(.int (I 89 y4.toNatClampNeg)), (.ref 91)]), (107, I, J, mm_rf rv sp rr w nw))) rfl h796 ?_
        refine mm_T.seg (f' := (59, [some (.ref 62), some (.int y1), some (.int y2), some (.int y3), some (.int y4)], [(.int (I 89 y4.toNatClampNeg)), (.ref 91), (.int (I 89 y4.toNatClampNeg)), (.ref 91)])) (h' := (107, I, J, mm_rf rv sp rr w nw)) 1 rfl ?_
        by_cases h797 : (I 89 y4.toNatClampNeg) < 0 ∨ 8 ≤ (I 89 y4.toNatClampNeg).toNatClampNeg
        · rw [if_pos h797] at e; cases e
        rw [if_neg h797] at e
        refine mm_T.guard (y := ((60, [some (.ref 62), some (.int y1), some (.int y2), some (.int y3), some (.int y4)], [(.int (I 91 (I 89 y4.toNatClampNeg).toNatClampNeg)), (.int (I 89 y4.toNatClampNeg)), (.ref 91)]), (107, I, J, mm_rf rv sp rr w nw))) rfl h797 ?_
        refine mm_T.seg (f' := (64, [some (.ref 62), some (.int y1), some (.int y2), some (.int y3), some (.int y4)], [(.ref 83), (.int (I 91 (I 89 y4.toNatClampNeg).toNatClampNeg)), (.int (I 89 y4.toNatClampNeg)), (.ref 91)])) (h' := (107, I, J, mm_rf rv sp rr w nw)) 2 rfl ?_
        refine mm_T.seg (f' := (66, [some (.ref 62), some (.int y1), some (.int y2), some (.int y3), some (.int y4)], [(.int y4), (.ref 83), (.int (I 91 (I 89 y4.toNatClampNeg).toNatClampNeg)), (.int (I 89 y4.toNatClampNeg)), (.ref 91)])) (h' := (107, I, J, mm_rf rv sp rr w nw)) 1 rfl ?_
        by_cases h798 : y4 < 0 ∨ 7 ≤ y4.toNatClampNeg
        · rw [if_pos h798] at e; cases e
        rw [if_neg h798] at e
        refine mm_T.guard (y := ((67, [some (.ref 62), some (.int y1), some (.int y2), some (.int y3), some (.int y4)], [(.int (I 83 y4.toNatClampNeg)), (.int (I 91 (I 89 y4.toNatClampNeg).toNatClampNeg)), (.int (I 89 y4.toNatClampNeg)), (.ref 91)]), (107, I, J, mm_rf rv sp rr w nw))) rfl h798 ?_
        refine mm_T.seg (f' := (68, [some (.ref 62), some (.int y1), some (.int y2), some (.int y3), some (.int y4)], [(.int ((I 91 (I 89 y4.toNatClampNeg).toNatClampNeg) + (I 83 y4.toNatClampNeg))), (.int (I 89 y4.toNatClampNeg)), (.ref 91)])) (h' := (107, I, J, mm_rf rv sp rr w nw)) 1 rfl ?_
        by_cases h799 : (I 89 y4.toNatClampNeg) < 0 ∨ 8 ≤ (I 89 y4.toNatClampNeg).toNatClampNeg
        · rw [if_pos h799] at e; cases e
        rw [if_neg h799] at e
        refine mm_T.guard (y := ((69, [some (.ref 62), some (.int y1), some (.int y2), some (.int y3), some (.int y4)], []), (107, (mm_up I 91 (I 89 y4.toNatClampNeg).toNatClampNeg ((I 91 (I 89 y4.toNatClampNeg).toNatClampNeg) + (I 83 y4.toNatClampNeg))), J, mm_rf rv sp rr w nw))) rfl h799 ?_
        refine mm_T.seg (f' := (70, [some (.ref 62), some (.int y1), some (.int y2), some (.int y3), some (.int y4)], [(.int y3)])) (h' := (107, (mm_up I 91 (I 89 y4.toNatClampNeg).toNatClampNeg ((I 91 (I 89 y4.toNatClampNeg).toNatClampNeg) + (I 83 y4.toNatClampNeg))), J, mm_rf rv sp rr w nw)) 1 rfl ?_
        refine mm_T.br (c := y3 = 0) (a := ((93, [some (.ref 62), some (.int y1), some (.int y2), some (.int y3), some (.int y4)], []), (107, (mm_up I 91 (I 89 y4.toNatClampNeg).toNatClampNeg ((I 91 (I 89 y4.toNatClampNeg).toNatClampNeg) + (I 83 y4.toNatClampNeg))), J, mm_rf rv sp rr w nw))) (b := ((73, [some (.ref 62), some (.int y1), some (.int y2), some (.int y3), some (.int y4)], []), (107, (mm_up I 91 (I 89 y4.toNatClampNeg).toNatClampNeg ((I 91 (I 89 y4.toNatClampNeg).toNatClampNeg) + (I 83 y4.toNatClampNeg))), J, mm_rf rv sp rr w nw))) rfl (fun h800 => ?_) (fun h800 => ?_)
        · rw [if_pos h800] at e
          refine mm_T.seg (f' := (26, [some (.ref 62), some (.int y1), some (.int y2), some (.int 0), some (.int (y4 + 1))], [])) (h' := (107, (mm_up I 91 (I 89 y4.toNatClampNeg).toNatClampNeg ((I 91 (I 89 y4.toNatClampNeg).toNatClampNeg) + (I 83 y4.toNatClampNeg))), J, mm_rf rv sp rr w nw)) 4 rfl ?_
          refine mm_T.mask [true, true, true, true, true] ?_
          exact ih y1 y2 0 (y4 + 1) (mm_up I 91 (I 89 y4.toNatClampNeg).toNatClampNeg ((I 91 (I 89 y4.toNatClampNeg).toNatClampNeg) + (I 83 y4.toNatClampNeg))) J rv sp rr w nw out e k
        · rw [if_neg h800] at e
          refine mm_T.seg (f' := (77, [some (.ref 62), some (.int y1), some (.int y2), some (.int y3), some (.int y4)], [(.ref 91)])) (h' := (107, (mm_up I 91 (I 89 y4.toNatClampNeg).toNatClampNeg ((I 91 (I 89 y4.toNatClampNeg).toNatClampNeg) + (I 83 y4.toNatClampNeg))), J, mm_rf rv sp rr w nw)) 2 rfl ?_
          refine mm_T.seg (f' := (81, [some (.ref 62), some (.int y1), some (.int y2), some (.int y3), some (.int y4)], [(.ref 89), (.ref 91)])) (h' := (107, (mm_up I 91 (I 89 y4.toNatClampNeg).toNatClampNeg ((I 91 (I 89 y4.toNatClampNeg).toNatClampNeg) + (I 83 y4.toNatClampNeg))), J, mm_rf rv sp rr w nw)) 2 rfl ?_
          refine mm_T.seg (f' := (83, [some (.ref 62), some (.int y1), some (.int y2), some (.int y3), some (.int y4)], [(.int y4), (.ref 89), (.ref 91)])) (h' := (107, (mm_up I 91 (I 89 y4.toNatClampNeg).toNatClampNeg ((I 91 (I 89 y4.toNatClampNeg).toNatClampNeg) + (I 83 y4.toNatClampNeg))), J, mm_rf rv sp rr w nw)) 1 rfl ?_
          by_cases h801 : y4 < 0 ∨ 7 ≤ y4.toNatClampNeg
          · rw [if_pos h801] at e; cases e
          rw [if_neg h801] at e
          refine mm_T.guard (y := ((84, [some (.ref 62), some (.int y1), some (.int y2), some (.int y3), some (.int y4)], [(.int (I 89 y4.toNatClampNeg)), (.ref 91)]), (107, (mm_up I 91 (I 89 y4.toNatClampNeg).toNatClampNeg ((I 91 (I 89 y4.toNatClampNeg).toNatClampNeg) + (I 83 y4.toNatClampNeg))), J, mm_rf rv sp rr w nw))) rfl h801 ?_
          by_cases h802 : (I 89 y4.toNatClampNeg) < 0 ∨ 8 ≤ (I 89 y4.toNatClampNeg).toNatClampNeg
          · rw [if_pos h802] at e; cases e
          rw [if_neg h802] at e
          refine mm_T.guard (y := ((85, [some (.ref 62), some (.int y1), some (.int y2), some (.int y3), some (.int y4)], [(.int ((mm_up I 91 (I 89 y4.toNatClampNeg).toNatClampNeg ((I 91 (I 89 y4.toNatClampNeg).toNatClampNeg) + (I 83 y4.toNatClampNeg))) 91 (I 89 y4.toNatClampNeg).toNatClampNeg))]), (107, (mm_up I 91 (I 89 y4.toNatClampNeg).toNatClampNeg ((I 91 (I 89 y4.toNatClampNeg).toNatClampNeg) + (I 83 y4.toNatClampNeg))), J, mm_rf rv sp rr w nw))) rfl h802 ?_
          refine mm_T.seg (f' := (86, [some (.ref 62), some (.int y1), some (.int y2), some (.int y3), some (.int y4)], [(.int y2), (.int ((mm_up I 91 (I 89 y4.toNatClampNeg).toNatClampNeg ((I 91 (I 89 y4.toNatClampNeg).toNatClampNeg) + (I 83 y4.toNatClampNeg))) 91 (I 89 y4.toNatClampNeg).toNatClampNeg))])) (h' := (107, (mm_up I 91 (I 89 y4.toNatClampNeg).toNatClampNeg ((I 91 (I 89 y4.toNatClampNeg).toNatClampNeg) + (I 83 y4.toNatClampNeg))), J, mm_rf rv sp rr w nw)) 1 rfl ?_
          refine mm_T.br (c := y2 < ((mm_up I 91 (I 89 y4.toNatClampNeg).toNatClampNeg ((I 91 (I 89 y4.toNatClampNeg).toNatClampNeg) + (I 83 y4.toNatClampNeg))) 91 (I 89 y4.toNatClampNeg).toNatClampNeg)) (a := ((93, [some (.ref 62), some (.int y1), some (.int y2), some (.int y3), some (.int y4)], []), (107, (mm_up I 91 (I 89 y4.toNatClampNeg).toNatClampNeg ((I 91 (I 89 y4.toNatClampNeg).toNatClampNeg) + (I 83 y4.toNatClampNeg))), J, mm_rf rv sp rr w nw))) (b := ((89, [some (.ref 62), some (.int y1), some (.int y2), some (.int y3), some (.int y4)], []), (107, (mm_up I 91 (I 89 y4.toNatClampNeg).toNatClampNeg ((I 91 (I 89 y4.toNatClampNeg).toNatClampNeg) + (I 83 y4.toNatClampNeg))), J, mm_rf rv sp rr w nw))) rfl (fun h803 => ?_) (fun h803 => ?_)
          · rw [if_pos h803] at e
            refine mm_T.seg (f' := (26, [some (.ref 62), some (.int y1), some (.int y2), some (.int 0), some (.int (y4 + 1))], [])) (h' := (107, (mm_up I 91 (I 89 y4.toNatClampNeg).toNatClampNeg ((I 91 (I 89 y4.toNatClampNeg).toNatClampNeg) + (I 83 y4.toNatClampNeg))), J, mm_rf rv sp rr w nw)) 4 rfl ?_
            refine mm_T.mask [true, true, true, true, true] ?_
            exact ih y1 y2 0 (y4 + 1) (mm_up I 91 (I 89 y4.toNatClampNeg).toNatClampNeg ((I 91 (I 89 y4.toNatClampNeg).toNatClampNeg) + (I 83 y4.toNatClampNeg))) J rv sp rr w nw out e k
          · rw [if_neg h803] at e
            refine mm_T.seg (f' := (26, [some (.ref 62), some (.int y1), some (.int y2), some (.int 1), some (.int (y4 + 1))], [])) (h' := (107, (mm_up I 91 (I 89 y4.toNatClampNeg).toNatClampNeg ((I 91 (I 89 y4.toNatClampNeg).toNatClampNeg) + (I 83 y4.toNatClampNeg))), J, mm_rf rv sp rr w nw)) 5 rfl ?_
            refine mm_T.mask [true, true, true, true, true] ?_
            exact ih y1 y2 1 (y4 + 1) (mm_up I 91 (I 89 y4.toNatClampNeg).toNatClampNeg ((I 91 (I 89 y4.toNatClampNeg).toNatClampNeg) + (I 83 y4.toNatClampNeg))) J rv sp rr w nw out e k
    · rw [if_neg h794] at e
      cases e
      refine mm_T.mask [false, false, false, true, false] ?_
      exact k
set_option maxRecDepth 100000 in
set_option maxHeartbeats 4000000 in
theorem tX12_isFlat (d n : Nat) (x1 : Int32) (x2 : Int32) (I : Nat → Nat → Int32) (J : Nat → Nat → Int64) (rv sp rr w nw : Nat) (out : Int32 × (Nat → Nat → Int32)) (e : fX12_isFlat n x1 x2 I = some out) : mm_T none (d + 0) 292 (mm_ent 292 [(.ref 62), (.int x1), (.int x2)]) (107, I, J, mm_rf rv sp rr w nw) (fun v h => v = some (.int out.1) ∧ h = (107, out.2, J, mm_rf rv sp rr w nw)) := by
  unfold fX12_isFlat at e
  refine mm_T.seg (f' := (2, [some (.ref 62), some (.int x1), some (.int x2), some (.int 0), none], [])) (h' := (107, I, J, mm_rf rv sp rr w nw)) 2 rfl ?_
  refine mm_T.mask [true, true, true, true, false] ?_
  obtain ⟨o793, eo793, e⟩ := mm_bind e
  refine tlX12_isFlat_L2 d _ n x1 x2 0 I J rv sp rr w nw o793 eo793 ?_
  refine mm_T.seg (f' := (26, [some (.ref 62), some (.int x1), some (.int x2), some (.int 1), some (.int 0)], [])) (h' := (107, o793, J, mm_rf rv sp rr w nw)) 4 rfl ?_
  refine mm_T.mask [true, true, true, true, true] ?_
  obtain ⟨o804, eo804, e⟩ := mm_bind e
  refine tlX12_isFlat_L26 d _ n x1 x2 1 0 o793 J rv sp rr w nw o804 eo804 ?_
  refine mm_T.seg (f' := (102, [none, none, none, some (.int o804.1), none], [(.int o804.1)])) (h' := (107, o804.2, J, mm_rf rv sp rr w nw)) 1 rfl ?_
  by_cases h805 : o804.1 = 0 ∨ o804.1 = 1
  case neg => rw [if_neg h805] at e; cases e
  rw [if_pos h805] at e
  cases e
  first | exact mm_T.retZ (v := some (.int o804.1)) rfl h805 ⟨rfl, rfl⟩ | exact mm_T.retZ (v := some (.int out)) rfl h805 ⟨rfl, rfl⟩
set_option maxRecDepth 100000 in
set_option maxHeartbeats 4000000 in
theorem tlX12_layBefore_L4 (d : Nat) (Q : Option Value → mm_H → Prop) : ∀ (n : Nat) (y1 : Int32) (y2 : Int32) (y3 : Int32) (I : Nat → Nat → Int32) (J : Nat → Nat → Int64) (rv sp rr w nw : Nat), ∀ (out : Int32 × (Nat → Nat → Int32)), fX12_layBefore_L4 n y1 y2 y3 I = some out → mm_T none (d + 0) 294 (47, [none, none, some (.int out.1), none], []) (107, out.2, J, mm_rf rv sp rr w nw) Q → mm_T none (d + 0) 294 (4, [some (.ref 62), some (.int y1), some (.int y2), some (.int y3)], []) (107, I, J, mm_rf rv sp rr w nw) Q := by
  intro n
  induction n with
  | zero =>
    intro y1 y2 y3 I J rv sp rr w nw out e k
    rw [fX12_layBefore_L4] at e; cases e
  | succ n ih =>
    intro y1 y2 y3 I J rv sp rr w nw out e k
    rw [fX12_layBefore_L4] at e
    refine mm_T.seg (f' := (9, [some (.ref 62), some (.int y1), some (.int y2), some (.int y3)], [(.int (I 62 49)), (.int y3)])) (h' := (107, I, J, mm_rf rv sp rr w nw)) 3 rfl ?_
    refine mm_T.br (c := y3 < (I 62 49)) (a := ((12, [some (.ref 62), some (.int y1), some (.int y2), some (.int y3)], []), (107, I, J, mm_rf rv sp rr w nw))) (b := ((47, [some (.ref 62), some (.int y1), some (.int y2), some (.int y3)], []), (107, I, J, mm_rf rv sp rr w nw))) rfl (fun h823 => ?_) (fun h823 => ?_)
    · rw [if_pos h823] at e
      refine mm_T.seg (f' := (16, [some (.ref 62), some (.int y1), some (.int y2), some (.int y3)], [(.ref 90)])) (h' := (107, I, J, mm_rf rv sp rr w nw)) 2 rfl ?_
      refine mm_T.seg (f' := (18, [some (.ref 62), some (.int y1), some (.int y2), some (.int y3)], [(.int y2), (.int y3), (.ref 90)])) (h' := (107, I, J, mm_rf rv sp rr w nw)) 2 rfl ?_
      by_cases h824 : y3 < 0 ∨ 8 ≤ y3.toNatClampNeg
      · rw [if_pos h824] at e; cases e
      rw [if_neg h824] at e
      refine mm_T.guard (y := ((19, [some (.ref 62), some (.int y1), some (.int y2), some (.int y3)], []), (107, (mm_up I 90 y3.toNatClampNeg y2), J, mm_rf rv sp rr w nw))) rfl h824 ?_
      refine mm_T.seg (f' := (25, [some (.ref 62), some (.int y1), some (.int y2), some (.int y3)], [(.int 1), (.int ((y1 >>> (y3 &&& 31)) &&& 1))])) (h' := (107, (mm_up I 90 y3.toNatClampNeg y2), J, mm_rf rv sp rr w nw)) 6 rfl ?_
      refine mm_T.br (c := ((y1 >>> (y3 &&& 31)) &&& 1) = 1) (a := ((28, [some (.ref 62), some (.int y1), some (.int y2), some (.int y3)], []), (107, (mm_up I 90 y3.toNatClampNeg y2), J, mm_rf rv sp rr w nw))) (b := ((41, [some (.ref 62), some (.int y1), some (.int y2), some (.int y3)], []), (107, (mm_up I 90 y3.toNatClampNeg y2), J, mm_rf rv sp rr w nw))) rfl (fun h825 => ?_) (fun h825 => ?_)
      · rw [if_pos h825] at e
        refine mm_T.seg (f' := (32, [some (.ref 62), some (.int y1), some (.int y2), some (.int y3)], [(.ref 89)])) (h' := (107, (mm_up I 90 y3.toNatClampNeg y2), J, mm_rf rv sp rr w nw)) 2 rfl ?_
        refine mm_T.seg (f' := (33, [some (.ref 62), some (.int y1), some (.int y2), some (.int y3)], [(.int y3), (.ref 89)])) (h' := (107, (mm_up I 90 y3.toNatClampNeg y2), J, mm_rf rv sp rr w nw)) 1 rfl ?_
        by_cases h826 : y3 < 0 ∨ 7 ≤ y3.toNatClampNeg
        · rw [if_pos h826] at e; cases e
        rw [if_neg h826] at e
        refine mm_T.guard (y := ((34, [some (.ref 62), some (.int y1), some (.int y2), some (.int y3)], [(.int (I 89 y3.toNatClampNeg))]), (107, (mm_up I 90 y3.toNatClampNeg y2), J, mm_rf rv sp rr w nw))) rfl h826 ?_
        refine mm_T.seg (f' := (35, [some (.ref 62), some (.int y1), some (.int y2), some (.int y3)], [(.int y2), (.int (I 89 y3.toNatClampNeg))])) (h' := (107, (mm_up I 90 y3.toNatClampNeg y2), J, mm_rf rv sp rr w nw)) 1 rfl ?_
        refine mm_T.br (c := (I 89 y3.toNatClampNeg) = y2) (a := ((38, [some (.ref 62), some (.int y1), some (.int y2), some (.int y3)], []), (107, (mm_up I 90 y3.toNatClampNeg y2), J, mm_rf rv sp rr w nw))) (b := ((41, [some (.ref 62), some (.int y1), some (.int y2), some (.int y3)], []), (107, (mm_up I 90 y3.toNatClampNeg y2), J, mm_rf rv sp rr w nw))) rfl (fun h827 => ?_) (fun h827 => ?_)
        · rw [if_pos h827] at e
          refine mm_T.seg (f' := (4, [some (.ref 62), some (.int y1), some (.int (y2 + 1)), some (.int (y3 + 1))], [])) (h' := (107, (mm_up I 90 y3.toNatClampNeg y2), J, mm_rf rv sp rr w nw)) 3 rfl ?_
          refine mm_T.mask [true, true, true, true] ?_
          exact ih y1 (y2 + 1) (y3 + 1) (mm_up I 90 y3.toNatClampNeg y2) J rv sp rr w nw out e k
        · rw [if_neg h827] at e
          refine mm_T.seg (f' := (4, [some (.ref 62), some (.int y1), some (.int y2), some (.int (y3 + 1))], [])) (h' := (107, (mm_up I 90 y3.toNatClampNeg y2), J, mm_rf rv sp rr w nw)) 2 rfl ?_
          refine mm_T.mask [true, true, true, true] ?_
          exact ih y1 y2 (y3 + 1) (mm_up I 90 y3.toNatClampNeg y2) J rv sp rr w nw out e k
      · rw [if_neg h825] at e
        refine mm_T.seg (f' := (4, [some (.ref 62), some (.int y1), some (.int y2), some (.int (y3 + 1))], [])) (h' := (107, (mm_up I 90 y3.toNatClampNeg y2), J, mm_rf rv sp rr w nw)) 2 rfl ?_
        refine mm_T.mask [true, true, true, true] ?_
        exact ih y1 y2 (y3 + 1) (mm_up I 90 y3.toNatClampNeg y2) J rv sp rr w nw out e k
    · rw [if_neg h823] at e
      cases e
      refine mm_T.mask [false, false, true, false] ?_
      exact k
set_option maxRecDepth 100000 in
set_option maxHeartbeats 4000000 in
theorem tX12_layBefore (d n : Nat) (x1 : Int32) (I : Nat → Nat → Int32) (J : Nat → Nat → Int64) (rv sp rr w nw : Nat) (out : Int32 × (Nat → Nat → Int32)) (e : fX12_layBefore n x1 I = some out) : mm_T none (d + 0) 294 (mm_ent 294 [(.ref 62), (.int x1)]) (107, I, J, mm_rf rv sp rr w nw) (fun v h => v = some (.int out.1) ∧ h = (107, out.2, J, mm_rf rv sp rr w nw)) := by
  unfold fX12_layBefore at e
  refine mm_T.seg (f' := (4, [some (.ref 62), some (.int x1), some (.int 0), some (.int 0)], [])) (h' := (107, I, J, mm_rf rv sp rr w nw)) 4 rfl ?_
  refine mm_T.mask [true, true, true, true] ?_
  obtain ⟨o828, eo828, e⟩ := mm_bind e
  refine tlX12_layBefore_L4 d _ n x1 0 0 I J rv sp rr w nw o828 eo828 ?_
  refine mm_T.seg (f' := (48, [none, none, some (.int o828.1), none], [(.int o828.1)])) (h' := (107, o828.2, J, mm_rf rv sp rr w nw)) 1 rfl ?_
  cases e
  exact mm_T.ret rfl ⟨rfl, rfl⟩
set_option maxRecDepth 100000 in
set_option maxHeartbeats 4000000 in
theorem tlX12_nextTrips_L7 (d : Nat) (Q : Option Value → mm_H → Prop) : ∀ (n : Nat) (y1 : Int32) (y2 : Int32) (I : Nat → Nat → Int32) (J : Nat → Nat → Int64) (rv sp rr w nw : Nat), ∀ (out : Int32), fX12_nextTrips_L7 n y1 y2 I = some out → mm_T none (d + 1) 293 (40, [some (.ref 62), some (.int y1), some (.int out), none], []) (107, I, J, mm_rf rv sp rr w nw) Q → mm_T none (d + 1) 293 (7, [some (.ref 62), some (.int y1), some (.int y2), none], []) (107, I, J, mm_rf rv sp rr w nw) Q := by
  intro n
  induction n with
  | zero =>
    intro y1 y2 I J rv sp rr w nw out e k
    rw [fX12_nextTrips_L7] at e; cases e
  | succ n ih =>
    intro y1 y2 I J rv sp rr w nw out e k
    rw [fX12_nextTrips_L7] at e
    refine mm_T.seg (f' := (8, [some (.ref 62), some (.int y1), some (.int y2), none], [(.int y2)])) (h' := (107, I, J, mm_rf rv sp rr w nw)) 1 rfl ?_
    refine mm_T.br (c := y2 < 0) (a := ((40, [some (.ref 62), some (.int y1), some (.int y2), none], []), (107, I, J, mm_rf rv sp rr w nw))) (b := ((11, [some (.ref 62), some (.int y1), some (.int y2), none], []), (107, I, J, mm_rf rv sp rr w nw))) rfl (fun h811 => ?_) (fun h811 => ?_)
    · rw [if_pos h811] at e
      cases e
      refine mm_T.mask [true, true, true, false] ?_
      exact k
    · rw [if_neg h811] at e
      refine mm_T.seg (f' := (16, [some (.ref 62), some (.int y1), some (.int y2), none], [(.int ((y1 >>> (y2 &&& 31)) &&& 1))])) (h' := (107, I, J, mm_rf rv sp rr w nw)) 5 rfl ?_
      refine mm_T.br (c := ((y1 >>> (y2 &&& 31)) &&& 1) = 0) (a := ((34, [some (.ref 62), some (.int y1), some (.int y2), none], []), (107, I, J, mm_rf rv sp rr w nw))) (b := ((19, [some (.ref 62), some (.int y1), some (.int y2), none], []), (107, I, J, mm_rf rv sp rr w nw))) rfl (fun h812 => ?_) (fun h812 => ?_)
      · rw [if_pos h812] at e
        refine mm_T.seg (f' := (7, [some (.ref 62), some (.int y1), some (.int (y2 + (-1))), none], [])) (h' := (107, I, J, mm_rf rv sp rr w nw)) 2 rfl ?_
        refine mm_T.mask [true, true, true, false] ?_
        exact ih y1 (y2 + (-1)) I J rv sp rr w nw out e k
      · rw [if_neg h812] at e
        refine mm_T.seg (f' := (23, [some (.ref 62), some (.int y1), some (.int y2), none], [(.ref 89)])) (h' := (107, I, J, mm_rf rv sp rr w nw)) 2 rfl ?_
        refine mm_T.seg (f' := (24, [some (.ref 62), some (.int y1), some (.int y2), none], [(.int y2), (.ref 89)])) (h' := (107, I, J, mm_rf rv sp rr w nw)) 1 rfl ?_
        by_cases h813 : y2 < 0 ∨ 7 ≤ y2.toNatClampNeg
        · rw [if_pos h813] at e; cases e
        rw [if_neg h813] at e
        refine mm_T.guard (y := ((25, [some (.ref 62), some (.int y1), some (.int y2), none], [(.int (I 89 y2.toNatClampNeg))]), (107, I, J, mm_rf rv sp rr w nw))) rfl h813 ?_
        refine mm_T.seg (f' := (29, [some (.ref 62), some (.int y1), some (.int y2), none], [(.ref 90), (.int (I 89 y2.toNatClampNeg))])) (h' := (107, I, J, mm_rf rv sp rr w nw)) 2 rfl ?_
        refine mm_T.seg (f' := (30, [some (.ref 62), some (.int y1), some (.int y2), none], [(.int y2), (.ref 90), (.int (I 89 y2.toNatClampNeg))])) (h' := (107, I, J, mm_rf rv sp rr w nw)) 1 rfl ?_
        by_cases h814 : y2 < 0 ∨ 8 ≤ y2.toNatClampNeg
        · rw [if_pos h814] at e; cases e
        rw [if_neg h814] at e
        refine mm_T.guard (y := ((31, [some (.ref 62), some (.int y1), some (.int y2), none], [(.int (I 90 y2.toNatClampNeg)), (.int (I 89 y2.toNatClampNeg))]), (107, I, J, mm_rf rv sp rr w nw))) rfl h814 ?_
        refine mm_T.br (c := (I 89 y2.toNatClampNeg) = (I 90 y2.toNatClampNeg)) (a := ((34, [some (.ref 62), some (.int y1), some (.int y2), none], []), (107, I, J, mm_rf rv sp rr w nw))) (b := ((40, [some (.ref 62), some (.int y1), some (.int y2), none], []), (107, I, J, mm_rf rv sp rr w nw))) rfl (fun h815 => ?_) (fun h815 => ?_)
        · rw [if_pos h815] at e
          refine mm_T.seg (f' := (7, [some (.ref 62), some (.int y1), some (.int (y2 + (-1))), none], [])) (h' := (107, I, J, mm_rf rv sp rr w nw)) 2 rfl ?_
          refine mm_T.mask [true, true, true, false] ?_
          exact ih y1 (y2 + (-1)) I J rv sp rr w nw out e k
        · rw [if_neg h815] at e
          cases e
          refine mm_T.mask [true, true, true, false] ?_
          exact k
set_option maxRecDepth 100000 in
set_option maxHeartbeats 4000000 in
theorem tlX12_nextTrips_L60 (d : Nat) (Q : Option Value → mm_H → Prop) : ∀ (n : Nat) (y1 : Int32) (y3 : Int32) (I : Nat → Nat → Int32) (J : Nat → Nat → Int64) (rv sp rr w nw : Nat), ∀ (out : (Nat → Nat → Int32)), fX12_nextTrips_L60 n y1 y3 I = some out → mm_T none (d + 1) 293 (81, [some (.ref 62), some (.int y1), none, none], []) (107, out, J, mm_rf rv sp rr w nw) Q → mm_T none (d + 1) 293 (60, [some (.ref 62), some (.int y1), none, some (.int y3)], []) (107, I, J, mm_rf rv sp rr w nw) Q := by
  intro n
  induction n with
  | zero =>
    intro y1 y3 I J rv sp rr w nw out e k
    rw [fX12_nextTrips_L60] at e; cases e
  | succ n ih =>
    intro y1 y3 I J rv sp rr w nw out e k
    rw [fX12_nextTrips_L60] at e
    refine mm_T.seg (f' := (65, [some (.ref 62), some (.int y1), none, some (.int y3)], [(.int (I 62 49)), (.int y3)])) (h' := (107, I, J, mm_rf rv sp rr w nw)) 3 rfl ?_
    refine mm_T.br (c := y3 < (I 62 49)) (a := ((68, [some (.ref 62), some (.int y1), none, some (.int y3)], []), (107, I, J, mm_rf rv sp rr w nw))) (b := ((81, [some (.ref 62), some (.int y1), none, some (.int y3)], []), (107, I, J, mm_rf rv sp rr w nw))) rfl (fun h820 => ?_) (fun h820 => ?_)
    · rw [if_pos h820] at e
      refine mm_T.seg (f' := (72, [some (.ref 62), some (.int y1), none, some (.int y3)], [(.ref 89)])) (h' := (107, I, J, mm_rf rv sp rr w nw)) 2 rfl ?_
      refine mm_T.seg (f' := (74, [some (.ref 62), some (.int y1), none, some (.int y3)], [(.int 0), (.int y3), (.ref 89)])) (h' := (107, I, J, mm_rf rv sp rr w nw)) 2 rfl ?_
      by_cases h821 : y3 < 0 ∨ 7 ≤ y3.toNatClampNeg
      · rw [if_pos h821] at e; cases e
      rw [if_neg h821] at e
      refine mm_T.guard (y := ((75, [some (.ref 62), some (.int y1), none, some (.int y3)], []), (107, (mm_up I 89 y3.toNatClampNeg 0), J, mm_rf rv sp rr w nw))) rfl h821 ?_
      refine mm_T.seg (f' := (60, [some (.ref 62), some (.int y1), none, some (.int (y3 + 1))], [])) (h' := (107, (mm_up I 89 y3.toNatClampNeg 0), J, mm_rf rv sp rr w nw)) 2 rfl ?_
      refine mm_T.mask [true, true, false, true] ?_
      exact ih y1 (y3 + 1) (mm_up I 89 y3.toNatClampNeg 0) J rv sp rr w nw out e k
    · rw [if_neg h820] at e
      cases e
      refine mm_T.mask [true, true, false, false] ?_
      exact k
set_option maxRecDepth 100000 in
set_option maxHeartbeats 4000000 in
theorem tX12_nextTrips (d n : Nat) (x1 : Int32) (I : Nat → Nat → Int32) (J : Nat → Nat → Int64) (rv sp rr w nw : Nat) (out : Int32 × (Nat → Nat → Int32)) (e : fX12_nextTrips n x1 I = some out) : mm_T none (d + 1) 293 (mm_ent 293 [(.ref 62), (.int x1)]) (107, I, J, mm_rf rv sp rr w nw) (fun v h => v = some (.int out.1) ∧ h = (107, out.2, J, mm_rf rv sp rr w nw)) := by
  unfold fX12_nextTrips at e
  refine mm_T.seg (f' := (7, [some (.ref 62), some (.int x1), some (.int ((I 62 49) - 1)), none], [])) (h' := (107, I, J, mm_rf rv sp rr w nw)) 5 rfl ?_
  refine mm_T.mask [true, true, true, false] ?_
  obtain ⟨o816, eo816, e⟩ := mm_bind e
  refine tlX12_nextTrips_L7 d _ n x1 ((I 62 49) - 1) I J rv sp rr w nw o816 eo816 ?_
  refine mm_T.seg (f' := (41, [some (.ref 62), some (.int x1), some (.int o816), none], [(.int o816)])) (h' := (107, I, J, mm_rf rv sp rr w nw)) 1 rfl ?_
  refine mm_T.br (c := o816 < 0) (a := ((44, [some (.ref 62), some (.int x1), some (.int o816), none], []), (107, I, J, mm_rf rv sp rr w nw))) (b := ((46, [some (.ref 62), some (.int x1), some (.int o816), none], []), (107, I, J, mm_rf rv sp rr w nw))) rfl (fun h817 => ?_) (fun h817 => ?_)
  · rw [if_pos h817] at e
    refine mm_T.seg (f' := (45, [some (.ref 62), some (.int x1), some (.int o816), none], [(.int 0)])) (h' := (107, I, J, mm_rf rv sp rr w nw)) 1 rfl ?_
    cases e
    exact mm_T.ret rfl ⟨rfl, rfl⟩
  · rw [if_neg h817] at e
    refine mm_T.seg (f' := (50, [some (.ref 62), some (.int x1), some (.int o816), none], [(.ref 89)])) (h' := (107, I, J, mm_rf rv sp rr w nw)) 2 rfl ?_
    refine mm_T.seg (f' := (52, [some (.ref 62), some (.int x1), some (.int o816), none], [(.int o816), (.ref 89), (.int o816), (.ref 89)])) (h' := (107, I, J, mm_rf rv sp rr w nw)) 2 rfl ?_
    by_cases h818 : o816 < 0 ∨ 7 ≤ o816.toNatClampNeg
    · rw [if_pos h818] at e; cases e
    rw [if_neg h818] at e
    refine mm_T.guard (y := ((53, [some (.ref 62), some (.int x1), some (.int o816), none], [(.int (I 89 o816.toNatClampNeg)), (.int o816), (.ref 89)]), (107, I, J, mm_rf rv sp rr w nw))) rfl h818 ?_
    refine mm_T.seg (f' := (55, [some (.ref 62), some (.int x1), some (.int o816), none], [(.int ((I 89 o816.toNatClampNeg) + 1)), (.int o816), (.ref 89)])) (h' := (107, I, J, mm_rf rv sp rr w nw)) 2 rfl ?_
    by_cases h819 : o816 < 0 ∨ 7 ≤ o816.toNatClampNeg
    · rw [if_pos h819] at e; cases e
    rw [if_neg h819] at e
    refine mm_T.guard (y := ((56, [some (.ref 62), some (.int x1), some (.int o816), none], []), (107, (mm_up I 89 o816.toNatClampNeg ((I 89 o816.toNatClampNeg) + 1)), J, mm_rf rv sp rr w nw))) rfl h819 ?_
    refine mm_T.seg (f' := (60, [some (.ref 62), some (.int x1), some (.int o816), some (.int (o816 + 1))], [])) (h' := (107, (mm_up I 89 o816.toNatClampNeg ((I 89 o816.toNatClampNeg) + 1)), J, mm_rf rv sp rr w nw)) 4 rfl ?_
    refine mm_T.mask [true, true, false, true] ?_
    obtain ⟨o822, eo822, e⟩ := mm_bind e
    refine tlX12_nextTrips_L60 d _ n x1 (o816 + 1) (mm_up I 89 o816.toNatClampNeg ((I 89 o816.toNatClampNeg) + 1)) J rv sp rr w nw o822 eo822 ?_
    refine mm_T.seg (f' := (83, [some (.ref 62), some (.int x1), none, none], [(.int x1), (.ref 62)])) (h' := (107, o822, J, mm_rf rv sp rr w nw)) 2 rfl ?_
    obtain ⟨o829, eo829, e⟩ := mm_bind e
    refine mm_T.call (t := 294) (as := [(.ref 62), (.int x1)]) (f' := (86, [some (.ref 62), some (.int x1), none, none], [])) rfl (tX12_layBefore (d + 0) n x1 o822 J rv sp rr w nw o829 eo829) (fun v h hq => ?_)
    obtain ⟨rfl, rfl⟩ := hq
    refine mm_T.seg (f' := (88, [some (.ref 62), some (.int x1), none, none], [(.int 1)])) (h' := (107, o829.2, J, mm_rf rv sp rr w nw)) 2 rfl ?_
    cases e
    exact mm_T.ret rfl ⟨rfl, rfl⟩
set_option maxRecDepth 100000 in
set_option maxHeartbeats 4000000 in
theorem tlX12_trips_L27 (d : Nat) (Q : Option Value → mm_H → Prop) : ∀ (n : Nat) (y1 : Int32) (y2 : Int32) (y3 : Int32) (y4 : Int32) (I : Nat → Nat → Int32) (J : Nat → Nat → Int64) (rv sp rr w nw : Nat), ∀ (out : (Nat → Nat → Int32)), fX12_trips_L27 n y1 y2 y3 y4 I = some out → mm_T none (d + 3) 295 (48, [some (.ref 62), some (.int y1), some (.int y2), some (.int y3), none, none, none], []) (107, out, J, mm_rf rv sp rr w nw) Q → mm_T none (d + 3) 295 (27, [some (.ref 62), some (.int y1), some (.int y2), some (.int y3), some (.int y4), none, none], []) (107, I, J, mm_rf rv sp rr w nw) Q := by
  intro n
  induction n with
  | zero =>
    intro y1 y2 y3 y4 I J rv sp rr w nw out e k
    rw [fX12_trips_L27] at e; cases e
  | succ n ih =>
    intro y1 y2 y3 y4 I J rv sp rr w nw out e k
    rw [fX12_trips_L27] at e
    refine mm_T.seg (f' := (31, [some (.ref 62), some (.int y1), some (.int y2), some (.int y3), some (.int y4), none, none], [(.int 7), (.int y4)])) (h' := (107, I, J, mm_rf rv sp rr w nw)) 2 rfl ?_
    refine mm_T.br (c := y4 < 7) (a := ((34, [some (.ref 62), some (.int y1), some (.int y2), some (.int y3), some (.int y4), none, none], []), (107, I, J, mm_rf rv sp rr w nw))) (b := ((48, [some (.ref 62), some (.int y1), some (.int y2), some (.int y3), some (.int y4), none, none], []), (107, I, J, mm_rf rv sp rr w nw))) rfl (fun h833 => ?_) (fun h833 => ?_)
    · rw [if_pos h833] at e
      refine mm_T.seg (f' := (38, [some (.ref 62), some (.int y1), some (.int y2), some (.int y3), some (.int y4), none, none], [(.ref 89)])) (h' := (107, I, J, mm_rf rv sp rr w nw)) 2 rfl ?_
      refine mm_T.seg (f' := (41, [some (.ref 62), some (.int y1), some (.int y2), some (.int y3), some (.int y4), none, none], [(.int 0), (.int y4), (.ref 89)])) (h' := (107, I, J, mm_rf rv sp rr w nw)) 2 rfl ?_
      by_cases h834 : y4 < 0 ∨ 7 ≤ y4.toNatClampNeg
      · rw [if_pos h834] at e; cases e
      rw [if_neg h834] at e
      refine mm_T.guard (y := ((42, [some (.ref 62), some (.int y1), some (.int y2), some (.int y3), some (.int y4), none, none], []), (107, (mm_up I 89 y4.toNatClampNeg 0), J, mm_rf rv sp rr w nw))) rfl h834 ?_
      refine mm_T.seg (f' := (27, [some (.ref 62), some (.int y1), some (.int y2), some (.int y3), some (.int (y4 + 1)), none, none], [])) (h' := (107, (mm_up I 89 y4.toNatClampNeg 0), J, mm_rf rv sp rr w nw)) 2 rfl ?_
      refine mm_T.mask [true, true, true, true, true, false, false] ?_
      exact ih y1 y2 y3 (y4 + 1) (mm_up I 89 y4.toNatClampNeg 0) J rv sp rr w nw out e k
    · rw [if_neg h833] at e
      cases e
      refine mm_T.mask [true, true, true, true, false, false, false] ?_
      exact k
set_option maxRecDepth 100000 in
set_option maxHeartbeats 4000000 in
theorem tlX12_trips_L95 (d : Nat) (Q : Option Value → mm_H → Prop) : ∀ (n : Nat) (y1 : Int32) (y2 : Int32) (y3 : Int32) (y6 : Int32) (I : Nat → Nat → Int32) (J : Nat → Nat → Int64) (rv sp rr w nw : Nat), ∀ (out : (Nat → Nat → Int32)), fX12_trips_L95 n y1 y2 y3 y6 I = some out → mm_T none (d + 3) 295 (138, [some (.ref 62), some (.int y1), some (.int y2), some (.int y3), none, none, none], []) (107, out, J, mm_rf rv sp rr w nw) Q → mm_T none (d + 3) 295 (95, [some (.ref 62), some (.int y1), some (.int y2), some (.int y3), none, none, some (.int y6)], []) (107, I, J, mm_rf rv sp rr w nw) Q := by
  intro n
  induction n with
  | zero =>
    intro y1 y2 y3 y6 I J rv sp rr w nw out e k
    rw [fX12_trips_L95] at e; cases e
  | succ n ih =>
    intro y1 y2 y3 y6 I J rv sp rr w nw out e k
    rw [fX12_trips_L95] at e
    refine mm_T.seg (f' := (101, [some (.ref 62), some (.int y1), some (.int y2), some (.int y3), none, none, some (.int y6)], [(.int (I 62 49)), (.int y6)])) (h' := (107, I, J, mm_rf rv sp rr w nw)) 3 rfl ?_
    refine mm_T.br (c := y6 < (I 62 49)) (a := ((104, [some (.ref 62), some (.int y1), some (.int y2), some (.int y3), none, none, some (.int y6)], []), (107, I, J, mm_rf rv sp rr w nw))) (b := ((138, [some (.ref 62), some (.int y1), some (.int y2), some (.int y3), none, none, some (.int y6)], []), (107, I, J, mm_rf rv sp rr w nw))) rfl (fun h844 => ?_) (fun h844 => ?_)
    · rw [if_pos h844] at e
      refine mm_T.seg (f' := (108, [some (.ref 62), some (.int y1), some (.int y2), some (.int y3), none, none, some (.int y6)], [(.ref 88)])) (h' := (107, I, J, mm_rf rv sp rr w nw)) 2 rfl ?_
      refine mm_T.seg (f' := (117, [some (.ref 62), some (.int y1), some (.int y2), some (.int y3), none, none, some (.int y6)], [(.int 1), (.int ((y2 >>> (y6 &&& 31)) &&& 1)), (.int y6), (.ref 88)])) (h' := (107, I, J, mm_rf rv sp rr w nw)) 7 rfl ?_
      refine mm_T.br (c := ((y2 >>> (y6 &&& 31)) &&& 1) = 1) (a := ((120, [some (.ref 62), some (.int y1), some (.int y2), some (.int y3), none, none, some (.int y6)], [(.int y6), (.ref 88)]), (107, I, J, mm_rf rv sp rr w nw))) (b := ((130, [some (.ref 62), some (.int y1), some (.int y2), some (.int y3), none, none, some (.int y6)], [(.int y6), (.ref 88)]), (107, I, J, mm_rf rv sp rr w nw))) rfl (fun h845 => ?_) (fun h845 => ?_)
      · rw [if_pos h845] at e
        refine mm_T.seg (f' := (124, [some (.ref 62), some (.int y1), some (.int y2), some (.int y3), none, none, some (.int y6)], [(.ref 89), (.int y6), (.ref 88)])) (h' := (107, I, J, mm_rf rv sp rr w nw)) 2 rfl ?_
        refine mm_T.seg (f' := (126, [some (.ref 62), some (.int y1), some (.int y2), some (.int y3), none, none, some (.int y6)], [(.int y6), (.ref 89), (.int y6), (.ref 88)])) (h' := (107, I, J, mm_rf rv sp rr w nw)) 1 rfl ?_
        by_cases h846 : y6 < 0 ∨ 7 ≤ y6.toNatClampNeg
        · rw [if_pos h846] at e; cases e
        rw [if_neg h846] at e
        refine mm_T.guard (y := ((127, [some (.ref 62), some (.int y1), some (.int y2), some (.int y3), none, none, some (.int y6)], [(.int (I 89 y6.toNatClampNeg)), (.int y6), (.ref 88)]), (107, I, J, mm_rf rv sp rr w nw))) rfl h846 ?_
        refine mm_T.seg (f' := (131, [some (.ref 62), some (.int y1), some (.int y2), some (.int y3), none, none, some (.int y6)], [(.int (I 89 y6.toNatClampNeg)), (.int y6), (.ref 88)])) (h' := (107, I, J, mm_rf rv sp rr w nw)) 1 rfl ?_
        by_cases h847 : y6 < 0 ∨ 7 ≤ y6.toNatClampNeg
        · rw [if_pos h847] at e; cases e
        rw [if_neg h847] at e
        refine mm_T.guard (y := ((132, [some (.ref 62), some (.int y1), some (.int y2), some (.int y3), none, none, some (.int y6)], []), (107, (mm_up I 88 y6.toNatClampNeg (I 89 y6.toNatClampNeg)), J, mm_rf rv sp rr w nw))) rfl h847 ?_
        refine mm_T.seg (f' := (95, [some (.ref 62), some (.int y1), some (.int y2), some (.int y3), none, none, some (.int (y6 + 1))], [])) (h' := (107, (mm_up I 88 y6.toNatClampNeg (I 89 y6.toNatClampNeg)), J, mm_rf rv sp rr w nw)) 2 rfl ?_
        refine mm_T.mask [true, true, true, true, false, false, true] ?_
        exact ih y1 y2 y3 (y6 + 1) (mm_up I 88 y6.toNatClampNeg (I 89 y6.toNatClampNeg)) J rv sp rr w nw out e k
      · rw [if_neg h845] at e
        refine mm_T.seg (f' := (131, [some (.ref 62), some (.int y1), some (.int y2), some (.int y3), none, none, some (.int y6)], [(.int (-1)), (.int y6), (.ref 88)])) (h' := (107, I, J, mm_rf rv sp rr w nw)) 1 rfl ?_
        by_cases h848 : y6 < 0 ∨ 7 ≤ y6.toNatClampNeg
        · rw [if_pos h848] at e; cases e
        rw [if_neg h848] at e
        refine mm_T.guard (y := ((132, [some (.ref 62), some (.int y1), some (.int y2), some (.int y3), none, none, some (.int y6)], []), (107, (mm_up I 88 y6.toNatClampNeg (-1)), J, mm_rf rv sp rr w nw))) rfl h848 ?_
        refine mm_T.seg (f' := (95, [some (.ref 62), some (.int y1), some (.int y2), some (.int y3), none, none, some (.int (y6 + 1))], [])) (h' := (107, (mm_up I 88 y6.toNatClampNeg (-1)), J, mm_rf rv sp rr w nw)) 2 rfl ?_
        refine mm_T.mask [true, true, true, true, false, false, true] ?_
        exact ih y1 y2 y3 (y6 + 1) (mm_up I 88 y6.toNatClampNeg (-1)) J rv sp rr w nw out e k
    · rw [if_neg h844] at e
      cases e
      refine mm_T.mask [true, true, true, true, false, false, false] ?_
      exact k
set_option maxRecDepth 100000 in
set_option maxHeartbeats 4000000 in
theorem tlX12_trips_L57 (d : Nat) (Q : Option Value → mm_H → Prop) : ∀ (n : Nat) (y1 : Int32) (y2 : Int32) (y3 : Int32) (y4 : Int32) (I : Nat → Nat → Int32) (J : Nat → Nat → Int64) (rv sp rr w nw : Nat), ∀ (out : Int32 × (Nat → Nat → Int32)), fX12_trips_L57 n y1 y2 y3 y4 I = some out → mm_T none (d + 3) 295 (156, [none, none, none, some (.int out.1), none, none, none], []) (107, out.2, J, mm_rf rv sp rr w nw) Q → mm_T none (d + 3) 295 (57, [some (.ref 62), some (.int y1), some (.int y2), some (.int y3), some (.int y4), none, none], []) (107, I, J, mm_rf rv sp rr w nw) Q := by
  intro n
  induction n with
  | zero =>
    intro y1 y2 y3 y4 I J rv sp rr w nw out e k
    rw [fX12_trips_L57] at e; cases e
  | succ n ih =>
    intro y1 y2 y3 y4 I J rv sp rr w nw out e k
    rw [fX12_trips_L57] at e
    refine mm_T.seg (f' := (59, [some (.ref 62), some (.int y1), some (.int y2), some (.int y3), some (.int y4), none, none], [(.int y4)])) (h' := (107, I, J, mm_rf rv sp rr w nw)) 1 rfl ?_
    refine mm_T.br (c := y4 = 0) (a := ((156, [some (.ref 62), some (.int y1), some (.int y2), some (.int y3), some (.int y4), none, none], []), (107, I, J, mm_rf rv sp rr w nw))) (b := ((62, [some (.ref 62), some (.int y1), some (.int y2), some (.int y3), some (.int y4), none, none], []), (107, I, J, mm_rf rv sp rr w nw))) rfl (fun h837 => ?_) (fun h837 => ?_)
    · rw [if_pos h837] at e
      cases e
      refine mm_T.mask [false, false, false, true, false, false, false] ?_
      exact k
    · rw [if_neg h837] at e
      refine mm_T.seg (f' := (64, [some (.ref 62), some (.int y1), some (.int y2), some (.int y3), some (.int y4), none, none], [(.int y2), (.ref 62)])) (h' := (107, I, J, mm_rf rv sp rr w nw)) 2 rfl ?_
      obtain ⟨o838, eo838, e⟩ := mm_bind e
      refine mm_T.call (t := 294) (as := [(.ref 62), (.int y2)]) (f' := (67, [some (.ref 62), some (.int y1), some (.int y2), some (.int y3), some (.int y4), none, none], [])) rfl (tX12_layBefore (d + 2) n y2 I J rv sp rr w nw o838 eo838) (fun v h hq => ?_)
      obtain ⟨rfl, rfl⟩ := hq
      refine mm_T.seg (f' := (72, [some (.ref 62), some (.int y1), some (.int y2), some (.int y3), some (.int y4), some (.int o838.1), none], [(.int y3), (.int o838.1)])) (h' := (107, o838.2, J, mm_rf rv sp rr w nw)) 3 rfl ?_
      refine mm_T.br (c := o838.1 < y3) (a := ((75, [some (.ref 62), some (.int y1), some (.int y2), some (.int y3), some (.int y4), some (.int o838.1), none], []), (107, o838.2, J, mm_rf rv sp rr w nw))) (b := ((146, [some (.ref 62), some (.int y1), some (.int y2), some (.int y3), some (.int y4), some (.int o838.1), none], []), (107, o838.2, J, mm_rf rv sp rr w nw))) rfl (fun h839 => ?_) (fun h839 => ?_)
      · rw [if_pos h839] at e
        refine mm_T.seg (f' := (81, [some (.ref 62), some (.int y1), some (.int y2), some (.int y3), some (.int y4), some (.int o838.1), none], [(.ref 80), (.int y2), (.ref 62)])) (h' := (107, o838.2, J, mm_rf rv sp rr w nw)) 4 rfl ?_
        refine mm_T.seg (f' := (82, [some (.ref 62), some (.int y1), some (.int y2), some (.int y3), some (.int y4), some (.int o838.1), none], [(.int y1), (.ref 80), (.int y2), (.ref 62)])) (h' := (107, o838.2, J, mm_rf rv sp rr w nw)) 1 rfl ?_
        by_cases h840 : y1 < 0 ∨ 4 ≤ y1.toNatClampNeg
        · rw [if_pos h840] at e; cases e
        rw [if_neg h840] at e
        refine mm_T.guard (y := ((83, [some (.ref 62), some (.int y1), some (.int y2), some (.int y3), some (.int y4), some (.int o838.1), none], [(.int (o838.2 80 y1.toNatClampNeg)), (.int y2), (.ref 62)]), (107, o838.2, J, mm_rf rv sp rr w nw))) rfl h840 ?_
        obtain ⟨o841, eo841, e⟩ := mm_bind e
        refine mm_T.call (t := 292) (as := [(.ref 62), (.int y2), (.int (o838.2 80 y1.toNatClampNeg))]) (f' := (86, [some (.ref 62), some (.int y1), some (.int y2), some (.int y3), some (.int y4), some (.int o838.1), none], [])) rfl (tX12_isFlat (d + 2) n y2 (o838.2 80 y1.toNatClampNeg) o838.2 J rv sp rr w nw o841 eo841) (fun v h hq => ?_)
        obtain ⟨rfl, rfl⟩ := hq
        refine mm_T.br (c := o841.1 = 0) (a := ((146, [some (.ref 62), some (.int y1), some (.int y2), some (.int y3), some (.int y4), some (.int o838.1), none], []), (107, o841.2, J, mm_rf rv sp rr w nw))) (b := ((89, [some (.ref 62), some (.int y1), some (.int y2), some (.int y3), some (.int y4), some (.int o838.1), none], []), (107, o841.2, J, mm_rf rv sp rr w nw))) rfl (fun h842 => ?_) (fun h842 => ?_)
        · rw [if_pos h842] at e
          refine mm_T.seg (f' := (148, [some (.ref 62), some (.int y1), some (.int y2), some (.int y3), some (.int y4), some (.int o838.1), none], [(.int y2), (.ref 62)])) (h' := (107, o841.2, J, mm_rf rv sp rr w nw)) 2 rfl ?_
          obtain ⟨o843, eo843, e⟩ := mm_bind e
          refine mm_T.call (t := 293) (as := [(.ref 62), (.int y2)]) (f' := (151, [some (.ref 62), some (.int y1), some (.int y2), some (.int y3), some (.int y4), some (.int o838.1), none], [])) rfl (tX12_nextTrips (d + 1) n y2 o841.2 J rv sp rr w nw o843 eo843) (fun v h hq => ?_)
          obtain ⟨rfl, rfl⟩ := hq
          refine mm_T.seg (f' := (57, [some (.ref 62), some (.int y1), some (.int y2), some (.int y3), some (.int o843.1), some (.int o838.1), none], [])) (h' := (107, o843.2, J, mm_rf rv sp rr w nw)) 2 rfl ?_
          refine mm_T.mask [true, true, true, true, true, false, false] ?_
          exact ih y1 y2 y3 o843.1 o843.2 J rv sp rr w nw out e k
        · rw [if_neg h842] at e
          refine mm_T.seg (f' := (95, [some (.ref 62), some (.int y1), some (.int y2), some (.int o838.1), some (.int y4), some (.int o838.1), some (.int 0)], [])) (h' := (107, o841.2, J, mm_rf rv sp rr w nw)) 4 rfl ?_
          refine mm_T.mask [true, true, true, true, false, false, true] ?_
          obtain ⟨o849, eo849, e⟩ := mm_bind e
          refine tlX12_trips_L95 d _ n y1 y2 o838.1 0 o841.2 J rv sp rr w nw o849 eo849 ?_
          refine mm_T.seg (f' := (148, [some (.ref 62), some (.int y1), some (.int y2), some (.int o838.1), none, none, none], [(.int y2), (.ref 62)])) (h' := (107, (mm_up o849 62 61 (o849 62 49)), J, mm_rf rv sp rr w nw)) 6 rfl ?_
          obtain ⟨o850, eo850, e⟩ := mm_bind e
          refine mm_T.call (t := 293) (as := [(.ref 62), (.int y2)]) (f' := (151, [some (.ref 62), some (.int y1), some (.int y2), some (.int o838.1), none, none, none], [])) rfl (tX12_nextTrips (d + 1) n y2 (mm_up o849 62 61 (o849 62 49)) J rv sp rr w nw o850 eo850) (fun v h hq => ?_)
          obtain ⟨rfl, rfl⟩ := hq
          refine mm_T.seg (f' := (57, [some (.ref 62), some (.int y1), some (.int y2), some (.int o838.1), some (.int o850.1), none, none], [])) (h' := (107, o850.2, J, mm_rf rv sp rr w nw)) 2 rfl ?_
          refine mm_T.mask [true, true, true, true, true, false, false] ?_
          exact ih y1 y2 o838.1 o850.1 o850.2 J rv sp rr w nw out e k
      · rw [if_neg h839] at e
        refine mm_T.seg (f' := (148, [some (.ref 62), some (.int y1), some (.int y2), some (.int y3), some (.int y4), some (.int o838.1), none], [(.int y2), (.ref 62)])) (h' := (107, o838.2, J, mm_rf rv sp rr w nw)) 2 rfl ?_
        obtain ⟨o851, eo851, e⟩ := mm_bind e
        refine mm_T.call (t := 293) (as := [(.ref 62), (.int y2)]) (f' := (151, [some (.ref 62), some (.int y1), some (.int y2), some (.int y3), some (.int y4), some (.int o838.1), none], [])) rfl (tX12_nextTrips (d + 1) n y2 o838.2 J rv sp rr w nw o851 eo851) (fun v h hq => ?_)
        obtain ⟨rfl, rfl⟩ := hq
        refine mm_T.seg (f' := (57, [some (.ref 62), some (.int y1), some (.int y2), some (.int y3), some (.int o851.1), some (.int o838.1), none], [])) (h' := (107, o851.2, J, mm_rf rv sp rr w nw)) 2 rfl ?_
        refine mm_T.mask [true, true, true, true, true, false, false] ?_
        exact ih y1 y2 y3 o851.1 o851.2 J rv sp rr w nw out e k
set_option maxRecDepth 100000 in
set_option maxHeartbeats 4000000 in
theorem tX12_trips (d n : Nat) (x1 : Int32) (I : Nat → Nat → Int32) (J : Nat → Nat → Int64) (rv sp rr w nw : Nat) (out : Int32 × (Nat → Nat → Int32)) (e : fX12_trips n x1 I = some out) : mm_T none (d + 3) 295 (mm_ent 295 [(.ref 62), (.int x1)]) (107, I, J, mm_rf rv sp rr w nw) (fun v h => v = some (.int out.1) ∧ h = (107, out.2, J, mm_rf rv sp rr w nw)) := by
  unfold fX12_trips at e
  refine mm_T.seg (f' := (7, [some (.ref 62), some (.int x1), none, none, none, none, none], [(.int x1), (.ref 62)])) (h' := (107, (mm_up I 62 61 0), J, mm_rf rv sp rr w nw)) 5 rfl ?_
  obtain ⟨o830, eo830, e⟩ := mm_bind e
  refine mm_T.call (t := 253) (as := [(.ref 62), (.int x1)]) (f' := (10, [some (.ref 62), some (.int x1), none, none, none, none, none], [])) rfl (tX12_isBoard (d + 1) x1 (mm_up I 62 61 0) J rv sp rr w nw o830 eo830) (fun v h hq => ?_)
  obtain ⟨rfl, rfl⟩ := hq
  refine mm_T.br (c := o830 = 0) (a := ((13, [some (.ref 62), some (.int x1), none, none, none, none, none], []), (107, (mm_up I 62 61 0), J, mm_rf rv sp rr w nw))) (b := ((15, [some (.ref 62), some (.int x1), none, none, none, none, none], []), (107, (mm_up I 62 61 0), J, mm_rf rv sp rr w nw))) rfl (fun h831 => ?_) (fun h831 => ?_)
  · rw [if_pos h831] at e
    refine mm_T.seg (f' := (14, [some (.ref 62), some (.int x1), none, none, none, none, none], [(.int (-1))])) (h' := (107, (mm_up I 62 61 0), J, mm_rf rv sp rr w nw)) 1 rfl ?_
    cases e
    exact mm_T.ret rfl ⟨rfl, rfl⟩
  · rw [if_neg h831] at e
    refine mm_T.seg (f' := (16, [some (.ref 62), some (.int x1), none, none, none, none, none], [(.ref 62)])) (h' := (107, (mm_up I 62 61 0), J, mm_rf rv sp rr w nw)) 1 rfl ?_
    obtain ⟨o832, eo832, e⟩ := mm_bind e
    refine mm_T.call (t := 291) (as := [(.ref 62)]) (f' := (19, [some (.ref 62), some (.int x1), none, none, none, none, none], [])) rfl (tX12_nearLoads (d + 0) n (mm_up I 62 61 0) J rv sp rr w nw o832 eo832) (fun v h hq => ?_)
    obtain ⟨rfl, rfl⟩ := hq
    refine mm_T.seg (f' := (27, [some (.ref 62), some (.int x1), some (.int o832.1), some (.int 1000000), some (.int 0), none, none], [])) (h' := (107, o832.2, J, mm_rf rv sp rr w nw)) 5 rfl ?_
    refine mm_T.mask [true, true, true, true, true, false, false] ?_
    obtain ⟨o835, eo835, e⟩ := mm_bind e
    refine tlX12_trips_L27 d _ n x1 o832.1 1000000 0 o832.2 J rv sp rr w nw o835 eo835 ?_
    refine mm_T.seg (f' := (50, [some (.ref 62), some (.int x1), some (.int o832.1), some (.int 1000000), none, none, none], [(.int o832.1), (.ref 62)])) (h' := (107, o835, J, mm_rf rv sp rr w nw)) 2 rfl ?_
    obtain ⟨o836, eo836, e⟩ := mm_bind e
    refine mm_T.call (t := 294) (as := [(.ref 62), (.int o832.1)]) (f' := (53, [some (.ref 62), some (.int x1), some (.int o832.1), some (.int 1000000), none, none, none], [])) rfl (tX12_layBefore (d + 2) n o832.1 o835 J rv sp rr w nw o836 eo836) (fun v h hq => ?_)
    obtain ⟨rfl, rfl⟩ := hq
    refine mm_T.seg (f' := (57, [some (.ref 62), some (.int x1), some (.int o832.1), some (.int 1000000), some (.int 1), none, none], [])) (h' := (107, o836.2, J, mm_rf rv sp rr w nw)) 3 rfl ?_
    refine mm_T.mask [true, true, true, true, true, false, false] ?_
    obtain ⟨o852, eo852, e⟩ := mm_bind e
    refine tlX12_trips_L57 d _ n x1 o832.1 1000000 1 o836.2 J rv sp rr w nw o852 eo852 ?_
    refine mm_T.seg (f' := (160, [none, none, none, some (.int o852.1), none, none, none], [(.int 1000000), (.int o852.1)])) (h' := (107, o852.2, J, mm_rf rv sp rr w nw)) 2 rfl ?_
    refine mm_T.br (c := o852.1 = 1000000) (a := ((163, [none, none, none, some (.int o852.1), none, none, none], []), (107, o852.2, J, mm_rf rv sp rr w nw))) (b := ((167, [none, none, none, some (.int o852.1), none, none, none], []), (107, o852.2, J, mm_rf rv sp rr w nw))) rfl (fun h853 => ?_) (fun h853 => ?_)
    · rw [if_pos h853] at e
      refine mm_T.seg (f' := (168, [none, none, none, some (.int o852.1), none, none, none], [(.int (-1))])) (h' := (107, o852.2, J, mm_rf rv sp rr w nw)) 2 rfl ?_
      cases e
      exact mm_T.ret rfl ⟨rfl, rfl⟩
    · rw [if_neg h853] at e
      refine mm_T.seg (f' := (168, [none, none, none, some (.int o852.1), none, none, none], [(.int o852.1)])) (h' := (107, o852.2, J, mm_rf rv sp rr w nw)) 1 rfl ?_
      cases e
      exact mm_T.ret rfl ⟨rfl, rfl⟩
