set_option maxRecDepth 100000 in
set_option maxHeartbeats 4000000 in
theorem tX12_nearLoads (d n : Nat) (I : Nat → Nat → Int32) (J : Nat → Nat → Int64) (rv sp rr w nw : Nat) (out : Int32 × (Nat → Nat → Int32)) (e : fX12_nearLoads n I = some out) : mm_T none (d + 2) 291 (mm_ent 291 [(.ref 62)]) (107, I, J, mm_rf rv sp rr w nw) (fun v h => v = some (.int out.1) ∧ h = (107, out.2, J, mm_rf rv sp rr w nw)) := by
  unfold fX12_nearLoads at e
  refine mm_T.seg (f' := (1, [some (.ref 62)], [(.ref 62)])) (h' := (107, I, J, mm_rf rv sp rr w nw)) 1 rfl ?_
  obtain ⟨o789, eo789, e⟩ := mm_bind e
  refine mm_T.call (t := 256) (as := [(.ref 62)]) (f' := (4, [some (.ref 62)], [])) rfl (tX12_fill (d + 1) n I J rv sp rr w nw o789 eo789) (fun v h hq => ?_)
  obtain ⟨rfl, rfl⟩ := hq
  refine mm_T.seg (f' := (6, [some (.ref 62)], [(.int (-1)), (.ref 62)])) (h' := (107, o789, J, mm_rf rv sp rr w nw)) 2 rfl ?_
  obtain ⟨o790, eo790, e⟩ := mm_bind e
  refine mm_T.call (t := 262) (as := [(.ref 62), (.int (-1))]) (f' := (9, [some (.ref 62)], [])) rfl (tX12_loadsAt (d + 0) n (-1) o789 J rv sp rr w nw o790 eo790) (fun v h hq => ?_)
  obtain ⟨rfl, rfl⟩ := hq
  cases e
  exact mm_T.ret rfl ⟨rfl, rfl⟩
set_option maxRecDepth 100000 in
set_option maxHeartbeats 4000000 in
theorem tlX12_isFlat_L2 (d : Nat) (Q : Option Value → mm_H → Prop) : ∀ (n : Nat) (y1 : Int32) (y2 : Int32) (y3 : Int32) (I : Nat → Nat → Int32) (J : Nat → Nat → Int64) (rv sp rr w nw : Nat), ∀ (out : (Nat → Nat → Int32)), fX12_isFlat_L2 n y1 y2 y3 I = some out → mm_T none (d + 0) 292 (21, [some (.ref 62), some (.int y1), some (.int y2), none, none], []) (107, out, J, mm_rf rv sp rr w nw) Q → mm_T none (d + 0) 292 (2, [some (.ref 62), some (.int y1), some (.int y2), some (.int y3), none], []) (107, I, J, mm_rf rv sp rr w nw) Q := by
  intro n
  induction n with
  | zero =>
    intro y1 y2 y3 I J rv sp rr w nw out e k
    rw [fX12_isFlat_L2] at e; cases e
  | succ n ih =>
    intro y1 y2 y3 I J rv sp rr w nw out e k
    rw [fX12_isFlat_L2] at e
    refine mm_T.seg (f' := (5, [some (.ref 62), some (.int y1), some (.int y2), some (.int y3), none], [(.int 8), (.int y3)])) (h' := (107, I, J, mm_rf rv sp rr w nw)) 2 rfl ?_
    refine mm_T.br (c := y3 < 8) (a := ((8, [some (.ref 62), some (.int y1), some (.int y2), some (.int y3), none], []), (107, I, J, mm_rf rv sp rr w nw))) (b := ((21, [some (.ref 62), some (.int y1), some (.int y2), some (.int y3), none], []), (107, I, J, mm_rf rv sp rr w nw))) rfl (fun h791 => ?_) (fun h791 => ?_)
    · rw [if_pos h791] at e
      refine mm_T.seg (f' := (14, [some (.ref 62), some (.int y1), some (.int y2), some (.int y3), none], [(.int 0), (.int y3), (.ref 91)])) (h' := (107, I, J, mm_rf rv sp rr w nw)) 4 rfl ?_
      by_cases h792 : y3 < 0 ∨ 8 ≤ y3.toNatClampNeg
      · rw [if_pos h792] at e; cases e
      rw [if_neg h792] at e
      refine mm_T.guard (y := ((15, [some (.ref 62), some (.int y1), some (.int y2), some (.int y3), none], []), (107, (mm_up I 91 y3.toNatClampNeg 0), J, mm_rf rv sp rr w nw))) rfl h792 ?_
      refine mm_T.seg (f' := (2, [some (.ref 62), some (.int y1), some (.int y2), some (.int (y3 + 1)), none], [])) (h' := (107, (mm_up I 91 y3.toNatClampNeg 0), J, mm_rf rv sp rr w nw)) 2 rfl ?_
      refine mm_T.mask [true, true, true, true, false] ?_
      exact ih y1 y2 (y3 + 1) (mm_up I 91 y3.toNatClampNeg 0) J rv sp rr w nw out e k
    · rw [if_neg h791] at e
      cases e
      refine mm_T.mask [true, true, true, false, false] ?_
      exact k
set_option maxRecDepth 100000 in
set_option maxHeartbeats 4000000 in
theorem tlX12_isFlat_L26 (d : Nat) (Q : Option Value → mm_H → Prop) : ∀ (n : Nat) (y1 : Int32) (y2 : Int32) (y3 : Int32) (y4 : Int32) (I : Nat → Nat → Int32) (J : Nat → Nat → Int64) (rv sp rr w nw : Nat), ∀ (out : Int32 × (Nat → Nat → Int32)), fX12_isFlat_L26 n y1 y2 y3 y4 I = some out → mm_T none (d + 0) 292 (101, [none, none, none, some (.int out.1), none], []) (107, out.2, J, mm_rf rv sp rr w nw) Q → mm_T none (d + 0) 292 (26, [some (.ref 62), some (.int y1), some (.int y2), some (.int y3), some (.int y4)], []) (107, I, J, mm_rf rv sp rr w nw) Q := by
  intro n
  induction n with
  | zero =>
    intro y1 y2 y3 y4 I J rv sp rr w nw out e k
    rw [fX12_isFlat_L26] at e; cases e
  | succ n ih =>
    intro y1 y2 y3 y4 I J rv sp rr w nw out e k
    rw [fX12_isFlat_L26] at e
    refine mm_T.seg (f' := (32, [some (.ref 62), some (.int y1), some (.int y2), some (.int y3), some (.int y4)], [(.int (I 62 49)), (.int y4)])) (h' := (107, I, J, mm_rf rv sp rr w nw)) 3 rfl ?_
    refine mm_T.br (c := y4 < (I 62 49)) (a := ((35, [some (.ref 62), some (.int y1), some (.int y2), some (.int y3), some (.int y4)], []), (107, I, J, mm_rf rv sp rr w nw))) (b := ((101, [some (.ref 62), some (.int y1), some (.int y2), some (.int y3), some (.int y4)], []), (107, I, J, mm_rf rv sp rr w nw))) rfl (fun h794 => ?_) (fun h794 => ?_)
    · rw [if_pos h794] at e
      refine mm_T.seg (f' := (41, [some (.ref 62), some (.int y1), some (.int y2), some (.int y3), some (.int y4)], [(.int ((y1 >>> (y4 &&& 31)) &&& 1))])) (h' := (107, I, J, mm_rf rv sp rr w nw)) 5 rfl ?_
      refine mm_T.br (c := ((y1 >>> (y4 &&& 31)) &&& 1) = 0) (a := ((44, [some (.ref 62), some (.int y1), some (.int y2), some (.int y3), some (.int y4)], []), (107, I, J, mm_rf rv sp rr w nw))) (b := ((47, [some (.ref 62), some (.int y1), some (.int y2), some (.int y3), some (.int y4)], []), (107, I, J, mm_rf rv sp rr w nw))) rfl (fun h795 => ?_) (fun h795 => ?_)
      · rw [if_pos h795] at e
        refine mm_T.seg (f' := (26, [some (.ref 62), some (.int y1), some (.int y2), some (.int y3), some (.int (y4 + 1))], [])) (h' := (107, I, J, mm_rf rv sp rr w nw)) 3 rfl ?_
        refine mm_T.mask [true, true, true, true, true] ?_
        exact ih y1 y2 y3 (y4 + 1) I J rv sp rr w nw out e k
      · rw [if_neg h795] at e
        refine mm_T.seg (f' := (57, [some (.ref 62), some (.int y1), some (.int y2), some (.int y3), some (.int y4)], [(.int y4), (.ref 89), (.ref 91)])) (h' := (107, I, J, mm_rf rv sp rr w nw)) 5 rfl ?_
        by_cases h796 : y4 < 0 ∨ 7 ≤ y4.toNatClampNeg
        · rw [if_pos h796] at e; cases e
        rw [if_neg h796] at e
        refine mm_T.guard (y := ((58, [some (.ref 62), some (.int y1), some (.int y2), some (.int y3), some (.int y4)], [(.int (I 89 y4.toNatClampNeg)), (.ref 91)]), (107, I, J, mm_rf rv sp rr w nw))) rfl h796 ?_
        refine mm_T.seg (f' := (59, [some (.ref 62), some (.int y1), some (.int y2), some (.int y3), some (.int y4)], [(.int (I 89 y4.toNatClampNeg)), (.ref 91), (.int (I 89 y4.toNatClampNeg)), (.ref 91)])) (h' := (107, I, J, mm_rf rv sp rr w nw)) 1 rfl ?_
        by_cases h797 : (I 89 y4.toNatClampNeg) < 0 ∨ 8 ≤ (I 89 y4.toNatClampNeg).toNatClampNeg
        · rw [if_pos h797] at e; cases e
        rw [if_neg h797] at e
        refine mm_T.guard (y := ((60, [some (.ref 62), some (.int y1), some (.int y2), some (.int y3), some (.int y4)], [(.int (I 91 (I 89 y4.toNatClampNeg).toNatClampNeg)), (.int (I 89 y4.toNatClampNeg)), (.ref 91)]), (107, I, J, mm_rf rv sp rr w nw))) rfl h797 ?_
        refine mm_T.seg (f' := (66, [some (.ref 62), some (.int y1), some (.int y2), some (.int y3), some (.int y4)], [(.int y4), (.ref 83), (.int (I 91 (I 89 y4.toNatClampNeg).toNatClampNeg)), (.int (I 89 y4.toNatClampNeg)), (.ref 91)])) (h' := (107, I, J, mm_rf rv sp rr w nw)) 3 rfl ?_
        by_cases h798 : y4 < 0 ∨ 7 ≤ y4.toNatClampNeg
        · rw [if_pos h798] at e; cases e
        rw [if_neg h798] at e
        refine mm_T.guard (y := ((67, [some (.ref 62), some (.int y1), some (.int y2), some (.int y3), some (.int y4)], [(.int (I 83 y4.toNatClampNeg)), (.int (I 91 (I 89 y4.toNatClampNeg).toNatClampNeg)), (.int (I 89 y4.toNatClampNeg)), (.ref 91)]), (107, I, J, mm_rf rv sp rr w nw))) rfl h798 ?_
        refine mm_T.seg (f' := (68, [some (.ref 62), some (.int y1), some (.int y2), some (.int y3), some (.int y4)], [(.int ((I 91 (I 89 y4.toNatClampNeg).toNatClampNeg) + (I 83 y4.toNatClampNeg))), (.int (I 89 y4.toNatClampNeg)), (.ref 91)])) (h' := (107, I, J, mm_rf rv sp rr w nw)) 1 rfl ?_
        by_cases h799 : (I 89 y4.toNatClampNeg) < 0 ∨ 8 ≤ (I 89 y4.toNatClampNeg).toNatClampNeg
        · rw [if_pos h799] at e; cases e
        rw [if_neg h799] at e
        refine mm_T.guard (y := ((69, [some (.ref 62), some (.int y1), some (.int y2), some (.int y3), some (.int y4)], []), (107, (mm_up I 91 (I 89 y4.toNatClampNeg).toNatClampNeg ((I 91 (I 89 y4.toNatClampNeg).toNatClampNeg) + (I 83 y4.toNatClampNeg))), J, mm_rf rv sp rr w nw))) rfl h799 ?_
        refine mm_T.seg (f' := (70, [some (.ref 62), some (.int y1), some (.int y2), some (.int y3), some (.int y4)], [(.int y3)])) (h' := (107, (mm_up I 91 (I 89 y4.toNatClampNeg).toNatClampNeg ((I 91 (I 89 y4.toNatClampNeg).toNatClampNeg) + (I 83 y4.toNatClampNeg))), J, mm_rf rv sp rr w nw)) 1 rfl ?_
        refine mm_T.br (c := y3 = 0) (a := ((93, [some (.ref 62), some (.int y1), some (.int y2), some (.int y3), some (.int y4)], []), (107, (mm_up I 91 (I 89 y4.toNatClampNeg).toNatClampNeg ((I 91 (I 89 y4.toNatClampNeg).toNatClampNeg) + (I 83 y4.toNatClampNeg))), J, mm_rf rv sp rr w nw))) (b := ((73, [some (.ref 62), some (.int y1), some (.int y2), some (.int y3), some (.int y4)], []), (107, (mm_up I 91 (I 89 y4.toNatClampNeg).toNatClampNeg ((I 91 (I 89 y4.toNatClampNeg).toNatClampNeg) + (I 83 y4.toNatClampNeg))), J, mm_rf rv sp rr w nw))) rfl (fun h800 => ?_) (fun h800 => ?_)
        · rw [if_pos h800] at e
          refine mm_T.seg (f' := (26, [some (.ref 62), some (.int y1), some (.int y2), some (.int 0), some (.int (y4 + 1))], [])) (h' := (107, (mm_up I 91 (I 89 y4.toNatClampNeg).toNatClampNeg ((I 91 (I 89 y4.toNatClampNeg).toNatClampNeg) + (I 83 y4.toNatClampNeg))), J, mm_rf rv sp rr w nw)) 4 rfl ?_
          refine mm_T.mask [true, true, true, true, true] ?_
          exact ih y1 y2 0 (y4 + 1) (mm_up I 91 (I 89 y4.toNatClampNeg).toNatClampNeg ((I 91 (I 89 y4.toNatClampNeg).toNatClampNeg) + (I 83 y4.toNatClampNeg))) J rv sp rr w nw out e k
        · rw [if_neg h800] at e
          refine mm_T.seg (f' := (83, [some (.ref 62), some (.int y1), some (.int y2), some (.int y3), some (.int y4)], [(.int y4), (.ref 89), (.ref 91)])) (h' := (107, (mm_up I 91 (I 89 y4.toNatClampNeg).toNatClampNeg ((I 91 (I 89 y4.toNatClampNeg).toNatClampNeg) + (I 83 y4.toNatClampNeg))), J, mm_rf rv sp rr w nw)) 5 rfl ?_
          by_cases h801 : y4 < 0 ∨ 7 ≤ y4.toNatClampNeg
          · rw [if_pos h801] at e; cases e
          rw [if_neg h801] at e
          refine mm_T.guard (y := ((84, [some (.ref 62), some (.int y1), some (.int y2), some (.int y3), some (.int y4)], [(.int (I 89 y4.toNatClampNeg)), (.ref 91)]), (107, (mm_up I 91 (I 89 y4.toNatClampNeg).toNatClampNeg ((I 91 (I 89 y4.toNatClampNeg).toNatClampNeg) + (I 83 y4.toNatClampNeg))), J, mm_rf rv sp rr w nw))) rfl h801 ?_
          by_cases h802 : (I 89 y4.toNatClampNeg) < 0 ∨ 8 ≤ (I 89 y4.toNatClampNeg).toNatClampNeg
          · rw [if_pos h802] at e; cases e
          rw [if_neg h802] at e
          refine mm_T.guard (y := ((85, [some (.ref 62), some (.int y1), some (.int y2), some (.int y3), some (.int y4)], [(.int ((mm_up I 91 (I 89 y4.toNatClampNeg).toNatClampNeg ((I 91 (I 89 y4.toNatClampNeg).toNatClampNeg) + (I 83 y4.toNatClampNeg))) 91 (I 89 y4.toNatClampNeg).toNatClampNeg))]), (107, (mm_up I 91 (I 89 y4.toNatClampNeg).toNatClampNeg ((I 91 (I 89 y4.toNatClampNeg).toNatClampNeg) + (I 83 y4.toNatClampNeg))), J, mm_rf rv sp rr w nw))) rfl h802 ?_
          refine mm_T.seg (f' := (86, [some (.ref 62), some (.int y1), some (.int y2), some (.int y3), some (.int y4)], [(.int y2), (.int ((mm_up I 91 (I 89 y4.toNatClampNeg).toNatClampNeg ((I 91 (I 89 y4.toNatClampNeg).toNatClampNeg) + (I 83 y4.toNatClampNeg))) 91 (I 89 y4.toNatClampNeg).toNatClampNeg))])) (h' := (107, (mm_up I 91 (I 89 y4.toNatClampNeg).toNatClampNeg ((I 91 (I 89 y4.toNatClampNeg).toNatClampNeg) + (I 83 y4.toNatClampNeg))), J, mm_rf rv sp rr w nw)) 1 rfl ?_
          refine mm_T.br (c := y2 < ((mm_up I 91 (I 89 y4.toNatClampNeg).toNatClampNeg ((I 91 (I 89 y4.toNatClampNeg).toNatClampNeg) + (I 83 y4.toNatClampNeg))) 91 (I 89 y4.toNatClampNeg).toNatClampNeg)) (a := ((93, [some (.ref 62), some (.int y1), some (.int y2), some (.int y3), some (.int y4)], []), (107, (mm_up I 91 (I 89 y4.toNatClampNeg).toNatClampNeg ((I 91 (I 89 y4.toNatClampNeg).toNatClampNeg) + (I 83 y4.toNatClampNeg))), J, mm_rf rv sp rr w nw))) (b := ((89, [some (.ref 62), some (.int y1), some (.int y2), some (.int y3), some (.int y4)], []), (107, (mm_up I 91 (I 89 y4.toNatClampNeg).toNatClampNeg ((I 91 (I 89 y4.toNatClampNeg).toNatClampNeg) + (I 83 y4.toNatClampNeg))), J, mm_rf rv sp rr w nw))) rfl (fun h803 => ?_) (fun h803 => ?_)
          · rw [if_pos h803] at e
            refine mm_T.seg (f' := (26, [some (.ref 62), some (.int y1), some (.int y2), some (.int 0), some (.int (y4 + 1))], [])) (h' := (107, (mm_up I 91 (I 89 y4.toNatClampNeg).toNatClampNeg ((I 91 (I 89 y4.toNatClampNeg).toNatClampNeg) + (I 83 y4.toNatClampNeg))), J, mm_rf rv sp rr w nw)) 4 rfl ?_
            refine mm_T.mask [true, true, true, true, true] ?_
            exact ih y1 y2 0 (y4 + 1) (mm_up I 91 (I 89 y4.toNatClampNeg).toNatClampNeg ((I 91 (I 89 y4.toNatClampNeg).toNatClampNeg) + (I 83 y4.toNatClampNeg))) J rv sp rr w nw out e k
          · rw [if_neg h803] at e
            refine mm_T.seg (f' := (26, [some (.ref 62), some (.int y1), some (.int y2), some (.int 1), some (.int (y4 + 1))], [])) (h' := (107, (mm_up I 91 (I 89 y4.toNatClampNeg).toNatClampNeg ((I 91 (I 89 y4.toNatClampNeg).toNatClampNeg) + (I 83 y4.toNatClampNeg))), J, mm_rf rv sp rr w nw)) 5 rfl ?_
            refine mm_T.mask [true, true, true, true, true] ?_
            exact ih y1 y2 1 (y4 + 1) (mm_up I 91 (I 89 y4.toNatClampNeg).toNatClampNeg ((I 91 (I 89 y4.toNatClampNeg).toNatClampNeg) + (I 83 y4.toNatClampNeg))) J rv sp rr w nw out e k
    · rw [if_neg h794] at e
      cases e
      refine mm_T.mask [false, false, false, true, false] ?_
      exact k
set_option maxRecDepth 100000 in
set_option maxHeartbeats 4000000 in
theorem tX12_isFlat (d n : Nat) (x1 : Int32) (x2 : Int32) (I : Nat → Nat → Int32) (J : Nat → Nat → Int64) (rv sp rr w nw : Nat) (out : Int32 × (Nat → Nat → Int32)) (e : fX12_isFlat n x1 x2 I = some out) : mm_T none (d + 0) 292 (mm_ent 292 [(.ref 62), (.int x1), (.int x2)]) (107, I, J, mm_rf rv sp rr w nw) (fun v h => v = some (.int out.1) ∧ h = (107, out.2, J, mm_rf rv sp rr w nw)) := by
  unfold fX12_isFlat at e
  refine mm_T.seg (f' := (2, [some (.ref 62), some (.int x1), some (.int x2), some (.int 0), none], [])) (h' := (107, I, J, mm_rf rv sp rr w nw)) 2 rfl ?_
  refine mm_T.mask [true, true, true, true, false] ?_
  obtain ⟨o793, eo793, e⟩ := mm_bind e
  refine tlX12_isFlat_L2 d _ n x1 x2 0 I J rv sp rr w nw o793 eo793 ?_
  refine mm_T.seg (f' := (26, [some (.ref 62), some (.int x1), some (.int x2), some (.int 1), some (.int 0)], [])) (h' := (107, o793, J, mm_rf rv sp rr w nw)) 4 rfl ?_
  refine mm_T.mask [true, true, true, true, true] ?_
  obtain ⟨o804, eo804, e⟩ := mm_bind e
  refine tlX12_isFlat_L26 d _ n x1 x2 1 0 o793 J rv sp rr w nw o804 eo804 ?_
  refine mm_T.seg (f' := (102, [none, none, none, some (.int o804.1), none], [(.int o804.1)])) (h' := (107, o804.2, J, mm_rf rv sp rr w nw)) 1 rfl ?_
  by_cases h805 : o804.1 = 0 ∨ o804.1 = 1
  case neg => rw [if_neg h805] at e; cases e
  rw [if_pos h805] at e
  cases e
  first | exact mm_T.retZ (v := some (.int o804.1)) rfl h805 ⟨rfl, rfl⟩ | exact mm_T.retZ (v := some (.int out)) rfl h805 ⟨rfl, rfl⟩
set_option maxRecDepth 100000 in
set_option maxHeartbeats 4000000 in
theorem tlX12_layBefore_L4 (d : Nat) (Q : Option Value → mm_H → Prop) : ∀ (n : Nat) (y1 : Int32) (y2 : Int32) (y3 : Int32) (I : Nat → Nat → Int32) (J : Nat → Nat → Int64) (rv sp rr w nw : Nat), ∀ (out : Int32 × (Nat → Nat → Int32)), fX12_layBefore_L4 n y1 y2 y3 I = some out → mm_T none (d + 0) 294 (47, [none, none, some (.int out.1), none], []) (107, out.2, J, mm_rf rv sp rr w nw) Q → mm_T none (d + 0) 294 (4, [some (.ref 62), some (.int y1), some (.int y2), some (.int y3)], []) (107, I, J, mm_rf rv sp rr w nw) Q := by
  intro n
  induction n with
  | zero =>
    intro y1 y2 y3 I J rv sp rr w nw out e k
    rw [fX12_layBefore_L4] at e; cases e
  | succ n ih =>
    intro y1 y2 y3 I J rv sp rr w nw out e k
    rw [fX12_layBefore_L4] at e
    refine mm_T.seg (f' := (9, [some (.ref 62), some (.int y1), some (.int y2), some (.int y3)], [(.int (I 62 49)), (.int y3)])) (h' := (107, I, J, mm_rf rv sp rr w nw)) 3 rfl ?_
    refine mm_T.br (c := y3 < (I 62 49)) (a := ((12, [some (.ref 62), some (.int y1), some (.int y2), some (.int y3)], []), (107, I, J, mm_rf rv sp rr w nw))) (b := ((47, [some (.ref 62), some (.int y1), some (.int y2), some (.int y3)], []), (107, I, J, mm_rf rv sp rr w nw))) rfl (fun h823 => ?_) (fun h823 => ?_)
    · rw [if_pos h823] at e
      refine mm_T.seg (f' := (18, [some (.ref 62), some (.int y1), some (.int y2), some (.int y3)], [(.int y2), (.int y3), (.ref 90)])) (h' := (107, I, J, mm_rf rv sp rr w nw)) 4 rfl ?_
      by_cases h824 : y3 < 0 ∨ 8 ≤ y3.toNatClampNeg
      · rw [if_pos h824] at e; cases e
      rw [if_neg h824] at e
      refine mm_T.guard (y := ((19, [some (.ref 62), some (.int y1), some (.int y2), some (.int y3)], []), (107, (mm_up I 90 y3.toNatClampNeg y2), J, mm_rf rv sp rr w nw))) rfl h824 ?_
      refine mm_T.seg (f' := (25, [some (.ref 62), some (.int y1), some (.int y2), some (.int y3)], [(.int 1), (.int ((y1 >>> (y3 &&& 31)) &&& 1))])) (h' := (107, (mm_up I 90 y3.toNatClampNeg y2), J, mm_rf rv sp rr w nw)) 6 rfl ?_
      refine mm_T.br (c := ((y1 >>> (y3 &&& 31)) &&& 1) = 1) (a := ((28, [some (.ref 62), some (.int y1), some (.int y2), some (.int y3)], []), (107, (mm_up I 90 y3.toNatClampNeg y2), J, mm_rf rv sp rr w nw))) (b := ((41, [some (.ref 62), some (.int y1), some (.int y2), some (.int y3)], []), (107, (mm_up I 90 y3.toNatClampNeg y2), J, mm_rf rv sp rr w nw))) rfl (fun h825 => ?_) (fun h825 => ?_)
      · rw [if_pos h825] at e
        refine mm_T.seg (f' := (33, [some (.ref 62), some (.int y1), some (.int y2), some (.int y3)], [(.int y3), (.ref 89)])) (h' := (107, (mm_up I 90 y3.toNatClampNeg y2), J, mm_rf rv sp rr w nw)) 3 rfl ?_
        by_cases h826 : y3 < 0 ∨ 7 ≤ y3.toNatClampNeg
        · rw [if_pos h826] at e; cases e
        rw [if_neg h826] at e
        refine mm_T.guard (y := ((34, [some (.ref 62), some (.int y1), some (.int y2), some (.int y3)], [(.int (I 89 y3.toNatClampNeg))]), (107, (mm_up I 90 y3.toNatClampNeg y2), J, mm_rf rv sp rr w nw))) rfl h826 ?_
        refine mm_T.seg (f' := (35, [some (.ref 62), some (.int y1), some (.int y2), some (.int y3)], [(.int y2), (.int (I 89 y3.toNatClampNeg))])) (h' := (107, (mm_up I 90 y3.toNatClampNeg y2), J, mm_rf rv sp rr w nw)) 1 rfl ?_
        refine mm_T.br (c := (I 89 y3.toNatClampNeg) = y2) (a := ((38, [some (.ref 62), some (.int y1), some (.int y2), some (.int y3)], []), (107, (mm_up I 90 y3.toNatClampNeg y2), J, mm_rf rv sp rr w nw))) (b := ((41, [some (.ref 62), some (.int y1), some (.int y2), some (.int y3)], []), (107, (mm_up I 90 y3.toNatClampNeg y2), J, mm_rf rv sp rr w nw))) rfl (fun h827 => ?_) (fun h827 => ?_)
        · rw [if_pos h827] at e
          refine mm_T.seg (f' := (4, [some (.ref 62), some (.int y1), some (.int (y2 + 1)), some (.int (y3 + 1))], [])) (h' := (107, (mm_up I 90 y3.toNatClampNeg y2), J, mm_rf rv sp rr w nw)) 3 rfl ?_
          refine mm_T.mask [true, true, true, true] ?_
          exact ih y1 (y2 + 1) (y3 + 1) (mm_up I 90 y3.toNatClampNeg y2) J rv sp rr w nw out e k
        · rw [if_neg h827] at e
          refine mm_T.seg (f' := (4, [some (.ref 62), some (.int y1), some (.int y2), some (.int (y3 + 1))], [])) (h' := (107, (mm_up I 90 y3.toNatClampNeg y2), J, mm_rf rv sp rr w nw)) 2 rfl ?_
          refine mm_T.mask [true, true, true, true] ?_
          exact ih y1 y2 (y3 + 1) (mm_up I 90 y3.toNatClampNeg y2) J rv sp rr w nw out e k
      · rw [if_neg h825] at e
        refine mm_T.seg (f' := (4, [some (.ref 62), some (.int y1), some (.int y2), some (.int (y3 + 1))], [])) (h' := (107, (mm_up I 90 y3.toNatClampNeg y2), J, mm_rf rv sp rr w nw)) 2 rfl ?_
        refine mm_T.mask [true, true, true, true] ?_
        exact ih y1 y2 (y3 + 1) (mm_up I 90 y3.toNatClampNeg y2) J rv sp rr w nw out e k
    · rw [if_neg h823] at e
      cases e
      refine mm_T.mask [false, false, true, false] ?_
      exact k
set_option maxRecDepth 100000 in
set_option maxHeartbeats 4000000 in
theorem tX12_layBefore (d n : Nat) (x1 : Int32) (I : Nat → Nat → Int32) (J : Nat → Nat → Int64) (rv sp rr w nw : Nat) (out : Int32 × (Nat → Nat → Int32)) (e : fX12_layBefore n x1 I = some out) : mm_T none (d + 0) 294 (mm_ent 294 [(.ref 62), (.int x1)]) (107, I, J, mm_rf rv sp rr w nw) (fun v h => v = some (.int out.1) ∧ h = (107, out.2, J, mm_rf rv sp rr w nw)) := by
  unfold fX12_layBefore at e
  refine mm_T.seg (f' := (4, [some (.ref 62), some (.int x1), some (.int 0), some (.int 0)], [])) (h' := (107, I, J, mm_rf rv sp rr w nw)) 4 rfl ?_
  refine mm_T.mask [true, true, true, true] ?_
  obtain ⟨o828, eo828, e⟩ := mm_bind e
  refine tlX12_layBefore_L4 d _ n x1 0 0 I J rv sp rr w nw o828 eo828 ?_
  refine mm_T.seg (f' := (48, [none, none, some (.int o828.1), none], [(.int o828.1)])) (h' := (107, o828.2, J, mm_rf rv sp rr w nw)) 1 rfl ?_
  cases e
  exact mm_T.ret rfl ⟨rfl, rfl⟩
set_option maxRecDepth 100000 in
set_option maxHeartbeats 4000000 in
theorem tlX12_nextTrips_L7 (d : Nat) (Q : Option Value → mm_H → Prop) : ∀ (n : Nat) (y1 : Int32) (y2 : Int32) (I : Nat → Nat → Int32) (J : Nat → Nat → Int64) (rv sp rr w nw : Nat), ∀ (out : Int32), fX12_nextTrips_L7 n y1 y2 I = some out → mm_T none (d + 1) 293 (40, [some (.ref 62), some (.int y1), some (.int out), none], []) (107, I, J, mm_rf rv sp rr w nw) Q → mm_T none (d + 1) 293 (7, [some (.ref 62), some (.int y1), some (.int y2), none], []) (107, I, J, mm_rf rv sp rr w nw) Q := by
  intro n
  induction n with
  | zero =>
    intro y1 y2 I J rv sp rr w nw out e k
    rw [fX12_nextTrips_L7] at e; cases e
  | succ n ih =>
    intro y1 y2 I J rv sp rr w nw out e k
    rw [fX12_nextTrips_L7] at e
    refine mm_T.seg (f' := (8, [some (.ref 62), some (.int y1), some (.int y2), none], [(.int y2)])) (h' := (107, I, J, mm_rf rv sp rr w nw)) 1 rfl ?_
    refine mm_T.br (c := y2 < 0) (a := ((40, [some (.ref 62), some (.int y1), some (.int y2), none], []), (107, I, J, mm_rf rv sp rr w nw))) (b := ((11, [some (.ref 62), some (.int y1), some (.int y2), none], []), (107, I, J, mm_rf rv sp rr w nw))) rfl (fun h811 => ?_) (fun h811 => ?_)
    · rw [if_pos h811] at e
      cases e
      refine mm_T.mask [true, true, true, false] ?_
      exact k
    · rw [if_neg h811] at e
      refine mm_T.seg (f' := (16, [some (.ref 62), some (.int y1), some (.int y2), none], [(.int ((y1 >>> (y2 &&& 31)) &&& 1))])) (h' := (107, I, J, mm_rf rv sp rr w nw)) 5 rfl ?_
      refine mm_T.br (c := ((y1 >>> (y2 &&& 31)) &&& 1) = 0) (a := ((34, [some (.ref 62), some (.int y1), some (.int y2), none], []), (107, I, J, mm_rf rv sp rr w nw))) (b := ((19, [some (.ref 62), some (.int y1), some (.int y2), none], []), (107, I, J, mm_rf rv sp rr w nw))) rfl (fun h812 => ?_) (fun h812 => ?_)
      · rw [if_pos h812] at e
        refine mm_T.seg (f' := (7, [some (.ref 62), some (.int y1), some (.int (y2 + (-1))), none], [])) (h' := (107, I, J, mm_rf rv sp rr w nw)) 2 rfl ?_
        refine mm_T.mask [true, true, true, false] ?_
        exact ih y1 (y2 + (-1)) I J rv sp rr w nw out e k
      · rw [if_neg h812] at e
        refine mm_T.seg (f' := (24, [some (.ref 62), some (.int y1), some (.int y2), none], [(.int y2), (.ref 89)])) (h' := (107, I, J, mm_rf rv sp rr w nw)) 3 rfl ?_
        by_cases h813 : y2 < 0 ∨ 7 ≤ y2.toNatClampNeg
        · rw [if_pos h813] at e; cases e
        rw [if_neg h813] at e
        refine mm_T.guard (y := ((25, [some (.ref 62), some (.int y1), some (.int y2), none], [(.int (I 89 y2.toNatClampNeg))]), (107, I, J, mm_rf rv sp rr w nw))) rfl h813 ?_
        refine mm_T.seg (f' := (30, [some (.ref 62), some (.int y1), some (.int y2), none], [(.int y2), (.ref 90), (.int (I 89 y2.toNatClampNeg))])) (h' := (107, I, J, mm_rf rv sp rr w nw)) 3 rfl ?_
        by_cases h814 : y2 < 0 ∨ 8 ≤ y2.toNatClampNeg
        · rw [if_pos h814] at e; cases e
        rw [if_neg h814] at e
        refine mm_T.guard (y := ((31, [some (.ref 62), some (.int y1), some (.int y2), none], [(.int (I 90 y2.toNatClampNeg)), (.int (I 89 y2.toNatClampNeg))]), (107, I, J, mm_rf rv sp rr w nw))) rfl h814 ?_
        refine mm_T.br (c := (I 89 y2.toNatClampNeg) = (I 90 y2.toNatClampNeg)) (a := ((34, [some (.ref 62), some (.int y1), some (.int y2), none], []), (107, I, J, mm_rf rv sp rr w nw))) (b := ((40, [some (.ref 62), some (.int y1), some (.int y2), none], []), (107, I, J, mm_rf rv sp rr w nw))) rfl (fun h815 => ?_) (fun h815 => ?_)
        · rw [if_pos h815] at e
          refine mm_T.seg (f' := (7, [some (.ref 62), some (.int y1), some (.int (y2 + (-1))), none], [])) (h' := (107, I, J, mm_rf rv sp rr w nw)) 2 rfl ?_
          refine mm_T.mask [true, true, true, false] ?_
          exact ih y1 (y2 + (-1)) I J rv sp rr w nw out e k
        · rw [if_neg h815] at e
          cases e
          refine mm_T.mask [true, true, true, false] ?_
          exact k
set_option maxRecDepth 100000 in
set_option maxHeartbeats 4000000 in
theorem tlX12_nextTrips_L60 (d : Nat) (Q : Option Value → mm_H → Prop) : ∀ (n : Nat) (y1 : Int32) (y3 : Int32) (I : Nat → Nat → Int32) (J : Nat → Nat → Int64) (rv sp rr w nw : Nat), ∀ (out : (Nat → Nat → Int32)), fX12_nextTrips_L60 n y1 y3 I = some out → mm_T none (d + 1) 293 (81, [some (.ref 62), some (.int y1), none, none], []) (107, out, J, mm_rf rv sp rr w nw) Q → mm_T none (d + 1) 293 (60, [some (.ref 62), some (.int y1), none, some (.int y3)], []) (107, I, J, mm_rf rv sp rr w nw) Q := by
  intro n
  induction n with
  | zero =>
    intro y1 y3 I J rv sp rr w nw out e k
    rw [fX12_nextTrips_L60] at e; cases e
  | succ n ih =>
    intro y1 y3 I J rv sp rr w nw out e k
    rw [fX12_nextTrips_L60] at e
    refine mm_T.seg (f' := (65, [some (.ref 62), some (.int y1), none, some (.int y3)], [(.int (I 62 49)), (.int y3)])) (h' := (107, I, J, mm_rf rv sp rr w nw)) 3 rfl ?_
    refine mm_T.br (c := y3 < (I 62 49)) (a := ((68, [some (.ref 62), some (.int y1), none, some (.int y3)], []), (107, I, J, mm_rf rv sp rr w nw))) (b := ((81, [some (.ref 62), some (.int y1), none, some (.int y3)], []), (107, I, J, mm_rf rv sp rr w nw))) rfl (fun h820 => ?_) (fun h820 => ?_)
    · rw [if_pos h820] at e
      refine mm_T.seg (f' := (74, [some (.ref 62), some (.int y1), none, some (.int y3)], [(.int 0), (.int y3), (.ref 89)])) (h' := (107, I, J, mm_rf rv sp rr w nw)) 4 rfl ?_
      by_cases h821 : y3 < 0 ∨ 7 ≤ y3.toNatClampNeg
      · rw [if_pos h821] at e; cases e
      rw [if_neg h821] at e
      refine mm_T.guard (y := ((75, [some (.ref 62), some (.int y1), none, some (.int y3)], []), (107, (mm_up I 89 y3.toNatClampNeg 0), J, mm_rf rv sp rr w nw))) rfl h821 ?_
      refine mm_T.seg (f' := (60, [some (.ref 62), some (.int y1), none, some (.int (y3 + 1))], [])) (h' := (107, (mm_up I 89 y3.toNatClampNeg 0), J, mm_rf rv sp rr w nw)) 2 rfl ?_
      refine mm_T.mask [true, true, false, true] ?_
      exact ih y1 (y3 + 1) (mm_up I 89 y3.toNatClampNeg 0) J rv sp rr w nw out e k
    · rw [if_neg h820] at e
      cases e
      refine mm_T.mask [true, true, false, false] ?_
      exact k
set_option maxRecDepth 100000 in
set_option maxHeartbeats 4000000 in
theorem tX12_nextTrips (d n : Nat) (x1 : Int32) (I : Nat → Nat → Int32) (J : Nat → Nat → Int64) (rv sp rr w nw : Nat) (out : Int32 × (Nat → Nat → Int32)) (e : fX12_nextTrips n x1 I = some out) : mm_T none (d + 1) 293 (mm_ent 293 [(.ref 62), (.int x1)]) (107, I, J, mm_rf rv sp rr w nw) (fun v h => v = some (.int out.1) ∧ h = (107, out.2, J, mm_rf rv sp rr w nw)) := by
  unfold fX12_nextTrips at e
  refine mm_T.seg (f' := (7, [some (.ref 62), some (.int x1), some (.int ((I 62 49) - 1)), none], [])) (h' := (107, I, J, mm_rf rv sp rr w nw)) 5 rfl ?_
  refine mm_T.mask [true, true, true, false] ?_
  obtain ⟨o816, eo816, e⟩ := mm_bind e
  refine tlX12_nextTrips_L7 d _ n x1 ((I 62 49) - 1) I J rv sp rr w nw o816 eo816 ?_
  refine mm_T.seg (f' := (41, [some (.ref 62), some (.int x1), some (.int o816), none], [(.int o816)])) (h' := (107, I, J, mm_rf rv sp rr w nw)) 1 rfl ?_
  refine mm_T.br (c := o816 < 0) (a := ((44, [some (.ref 62), some (.int x1), some (.int o816), none], []), (107, I, J, mm_rf rv sp rr w nw))) (b := ((46, [some (.ref 62), some (.int x1), some (.int o816), none], []), (107, I, J, mm_rf rv sp rr w nw))) rfl (fun h817 => ?_) (fun h817 => ?_)
  · rw [if_pos h817] at e
    refine mm_T.seg (f' := (45, [some (.ref 62), some (.int x1), some (.int o816), none], [(.int 0)])) (h' := (107, I, J, mm_rf rv sp rr w nw)) 1 rfl ?_
    cases e
    exact mm_T.ret rfl ⟨rfl, rfl⟩
  · rw [if_neg h817] at e
    refine mm_T.seg (f' := (52, [some (.ref 62), some (.int x1), some (.int o816), none], [(.int o816), (.ref 89), (.int o816), (.ref 89)])) (h' := (107, I, J, mm_rf rv sp rr w nw)) 4 rfl ?_
    by_cases h818 : o816 < 0 ∨ 7 ≤ o816.toNatClampNeg
    · rw [if_pos h818] at e; cases e
    rw [if_neg h818] at e
    refine mm_T.guard (y := ((53, [some (.ref 62), some (.int x1), some (.int o816), none], [(.int (I 89 o816.toNatClampNeg)), (.int o816), (.ref 89)]), (107, I, J, mm_rf rv sp rr w nw))) rfl h818 ?_
    refine mm_T.seg (f' := (55, [some (.ref 62), some (.int x1), some (.int o816), none], [(.int ((I 89 o816.toNatClampNeg) + 1)), (.int o816), (.ref 89)])) (h' := (107, I, J, mm_rf rv sp rr w nw)) 2 rfl ?_
    by_cases h819 : o816 < 0 ∨ 7 ≤ o816.toNatClampNeg
    · rw [if_pos h819] at e; cases e
    rw [if_neg h819] at e
    refine mm_T.guard (y := ((56, [some (.ref 62), some (.int x1), some (.int o816), none], []), (107, (mm_up I 89 o816.toNatClampNeg ((I 89 o816.toNatClampNeg) + 1)), J, mm_rf rv sp rr w nw))) rfl h819 ?_
    refine mm_T.seg (f' := (60, [some (.ref 62), some (.int x1), some (.int o816), some (.int (o816 + 1))], [])) (h' := (107, (mm_up I 89 o816.toNatClampNeg ((I 89 o816.toNatClampNeg) + 1)), J, mm_rf rv sp rr w nw)) 4 rfl ?_
    refine mm_T.mask [true, true, false, true] ?_
    obtain ⟨o822, eo822, e⟩ := mm_bind e
    refine tlX12_nextTrips_L60 d _ n x1 (o816 + 1) (mm_up I 89 o816.toNatClampNeg ((I 89 o816.toNatClampNeg) + 1)) J rv sp rr w nw o822 eo822 ?_
    refine mm_T.seg (f' := (83, [some (.ref 62), some (.int x1), none, none], [(.int x1), (.ref 62)])) (h' := (107, o822, J, mm_rf rv sp rr w nw)) 2 rfl ?_
    obtain ⟨o829, eo829, e⟩ := mm_bind e
    refine mm_T.call (t := 294) (as := [(.ref 62), (.int x1)]) (f' := (86, [some (.ref 62), some (.int x1), none, none], [])) rfl (tX12_layBefore (d + 0) n x1 o822 J rv sp rr w nw o829 eo829) (fun v h hq => ?_)
    obtain ⟨rfl, rfl⟩ := hq
    refine mm_T.seg (f' := (88, [some (.ref 62), some (.int x1), none, none], [(.int 1)])) (h' := (107, o829.2, J, mm_rf rv sp rr w nw)) 2 rfl ?_
    cases e
    exact mm_T.ret rfl ⟨rfl, rfl⟩
set_option maxRecDepth 100000 in
set_option maxHeartbeats 4000000 in
theorem tlX12_trips_L27 (d : Nat) (Q : Option Value → mm_H → Prop) : ∀ (n : Nat) (y1 : Int32) (y2 : Int32) (y3 : Int32) (y4 : Int32) (I : Nat → Nat → Int32) (J : Nat → Nat → Int64) (rv sp rr w nw : Nat), ∀ (out : (Nat → Nat → Int32)), fX12_trips_L27 n y1 y2 y3 y4 I = some out → mm_T none (d + 3) 295 (48, [some (.ref 62), some (.int y1), some (.int y2), some (.int y3), none, none, none], []) (107, out, J, mm_rf rv sp rr w nw) Q → mm_T none (d + 3) 295 (27, [some (.ref 62), some (.int y1), some (.int y2), some (.int y3), some (.int y4), none, none], []) (107, I, J, mm_rf rv sp rr w nw) Q := by
  intro n
  induction n with
  | zero =>
    intro y1 y2 y3 y4 I J rv sp rr w nw out e k
    rw [fX12_trips_L27] at e; cases e
  | succ n ih =>
    intro y1 y2 y3 y4 I J rv sp rr w nw out e k
    rw [fX12_trips_L27] at e
    refine mm_T.seg (f' := (31, [some (.ref 62), some (.int y1), some (.int y2), some (.int y3), some (.int y4), none, none], [(.int 7), (.int y4)])) (h' := (107, I, J, mm_rf rv sp rr w nw)) 2 rfl ?_
    refine mm_T.br (c := y4 < 7) (a := ((34, [some (.ref 62), some (.int y1), some (.int y2), some (.int y3), some (.int y4), none, none], []), (107, I, J, mm_rf rv sp rr w nw))) (b := ((48, [some (.ref 62), some (.int y1), some (.int y2), some (.int y3), some (.int y4), none, none], []), (107, I, J, mm_rf rv sp rr w nw))) rfl (fun h833 => ?_) (fun h833 => ?_)
    · rw [if_pos h833] at e
      refine mm_T.seg (f' := (41, [some (.ref 62), some (.int y1), some (.int y2), some (.int y3), some (.int y4), none, none], [(.int 0), (.int y4), (.ref 89)])) (h' := (107, I, J, mm_rf rv sp rr w nw)) 4 rfl ?_
      by_cases h834 : y4 < 0 ∨ 7 ≤ y4.toNatClampNeg
      · rw [if_pos h834] at e; cases e
      rw [if_neg h834] at e
      refine mm_T.guard (y := ((42, [some (.ref 62), some (.int y1), some (.int y2), some (.int y3), some (.int y4), none, none], []), (107, (mm_up I 89 y4.toNatClampNeg 0), J, mm_rf rv sp rr w nw))) rfl h834 ?_
      refine mm_T.seg (f' := (27, [some (.ref 62), some (.int y1), some (.int y2), some (.int y3), some (.int (y4 + 1)), none, none], [])) (h' := (107, (mm_up I 89 y4.toNatClampNeg 0), J, mm_rf rv sp rr w nw)) 2 rfl ?_
      refine mm_T.mask [true, true, true, true, true, false, false] ?_
      exact ih y1 y2 y3 (y4 + 1) (mm_up I 89 y4.toNatClampNeg 0) J rv sp rr w nw out e k
    · rw [if_neg h833] at e
      cases e
      refine mm_T.mask [true, true, true, true, false, false, false] ?_
      exact k
set_option maxRecDepth 100000 in
set_option maxHeartbeats 4000000 in
theorem tlX12_trips_L95 (d : Nat) (Q : Option Value → mm_H → Prop) : ∀ (n : Nat) (y1 : Int32) (y2 : Int32) (y3 : Int32) (y6 : Int32) (I : Nat → Nat → Int32) (J : Nat → Nat → Int64) (rv sp rr w nw : Nat), ∀ (out : (Nat → Nat → Int32)), fX12_trips_L95 n y1 y2 y3 y6 I = some out → mm_T none (d + 3) 295 (138, [some (.ref 62), some (.int y1), some (.int y2), some (.int y3), none, none, none], []) (107, out, J, mm_rf rv sp rr w nw) Q → mm_T none (d + 3) 295 (95, [some (.ref 62), some (.int y1), some (.int y2), some (.int y3), none, none, some (.int y6)], []) (107, I, J, mm_rf rv sp rr w nw) Q := by
  intro n
  induction n with
  | zero =>
    intro y1 y2 y3 y6 I J rv sp rr w nw out e k
    rw [fX12_trips_L95] at e; cases e
  | succ n ih =>
    intro y1 y2 y3 y6 I J rv sp rr w nw out e k
    rw [fX12_trips_L95] at e
    refine mm_T.seg (f' := (101, [some (.ref 62), some (.int y1), some (.int y2), some (.int y3), none, none, some (.int y6)], [(.int (I 62 49)), (.int y6)])) (h' := (107, I, J, mm_rf rv sp rr w nw)) 3 rfl ?_
    refine mm_T.br (c := y6 < (I 62 49)) (a := ((104, [some (.ref 62), some (.int y1), some (.int y2), some (.int y3), none, none, some (.int y6)], []), (107, I, J, mm_rf rv sp rr w nw))) (b := ((138, [some (.ref 62), some (.int y1), some (.int y2), some (.int y3), none, none, some (.int y6)], []), (107, I, J, mm_rf rv sp rr w nw))) rfl (fun h844 => ?_) (fun h844 => ?_)
    · rw [if_pos h844] at e
      refine mm_T.seg (f' := (117, [some (.ref 62), some (.int y1), some (.int y2), some (.int y3), none, none, some (.int y6)], [(.int 1), (.int ((y2 >>> (y6 &&& 31)) &&& 1)), (.int y6), (.ref 88)])) (h' := (107, I, J, mm_rf rv sp rr w nw)) 9 rfl ?_
      refine mm_T.br (c := ((y2 >>> (y6 &&& 31)) &&& 1) = 1) (a := ((120, [some (.ref 62), some (.int y1), some (.int y2), some (.int y3), none, none, some (.int y6)], [(.int y6), (.ref 88)]), (107, I, J, mm_rf rv sp rr w nw))) (b := ((130, [some (.ref 62), some (.int y1), some (.int y2), some (.int y3), none, none, some (.int y6)], [(.int y6), (.ref 88)]), (107, I, J, mm_rf rv sp rr w nw))) rfl (fun h845 => ?_) (fun h845 => ?_)
      · rw [if_pos h845] at e
        refine mm_T.seg (f' := (126, [some (.ref 62), some (.int y1), some (.int y2), some (.int y3), none, none, some (.int y6)], [(.int y6), (.ref 89), (.int y6), (.ref 88)])) (h' := (107, I, J, mm_rf rv sp rr w nw)) 3 rfl ?_
        by_cases h846 : y6 < 0 ∨ 7 ≤ y6.toNatClampNeg
        · rw [if_pos h846] at e; cases e
        rw [if_neg h846] at e
        refine mm_T.guard (y := ((127, [some (.ref 62), some (.int y1), some (.int y2), some (.int y3), none, none, some (.int y6)], [(.int (I 89 y6.toNatClampNeg)), (.int y6), (.ref 88)]), (107, I, J, mm_rf rv sp rr w nw))) rfl h846 ?_
        refine mm_T.seg (f' := (131, [some (.ref 62), some (.int y1), some (.int y2), some (.int y3), none, none, some (.int y6)], [(.int (I 89 y6.toNatClampNeg)), (.int y6), (.ref 88)])) (h' := (107, I, J, mm_rf rv sp rr w nw)) 1 rfl ?_
        by_cases h847 : y6 < 0 ∨ 7 ≤ y6.toNatClampNeg
        · rw [if_pos h847] at e; cases e
        rw [if_neg h847] at e
        refine mm_T.guard (y := ((132, [some (.ref 62), some (.int y1), some (.int y2), some (.int y3), none, none, some (.int y6)], []), (107, (mm_up I 88 y6.toNatClampNeg (I 89 y6.toNatClampNeg)), J, mm_rf rv sp rr w nw))) rfl h847 ?_
        refine mm_T.seg (f' := (95, [some (.ref 62), some (.int y1), some (.int y2), some (.int y3), none, none, some (.int (y6 + 1))], [])) (h' := (107, (mm_up I 88 y6.toNatClampNeg (I 89 y6.toNatClampNeg)), J, mm_rf rv sp rr w nw)) 2 rfl ?_
        refine mm_T.mask [true, true, true, true, false, false, true] ?_
        exact ih y1 y2 y3 (y6 + 1) (mm_up I 88 y6.toNatClampNeg (I 89 y6.toNatClampNeg)) J rv sp rr w nw out e k
      · rw [if_neg h845] at e
        refine mm_T.seg (f' := (131, [some (.ref 62), some (.int y1), some (.int y2), some (.int y3), none, none, some (.int y6)], [(.int (-1)), (.int y6), (.ref 88)])) (h' := (107, I, J, mm_rf rv sp rr w nw)) 1 rfl ?_
        by_cases h848 : y6 < 0 ∨ 7 ≤ y6.toNatClampNeg
        · rw [if_pos h848] at e; cases e
        rw [if_neg h848] at e
        refine mm_T.guard (y := ((132, [some (.ref 62), some (.int y1), some (.int y2), some (.int y3), none, none, some (.int y6)], []), (107, (mm_up I 88 y6.toNatClampNeg (-1)), J, mm_rf rv sp rr w nw))) rfl h848 ?_
        refine mm_T.seg (f' := (95, [some (.ref 62), some (.int y1), some (.int y2), some (.int y3), none, none, some (.int (y6 + 1))], [])) (h' := (107, (mm_up I 88 y6.toNatClampNeg (-1)), J, mm_rf rv sp rr w nw)) 2 rfl ?_
        refine mm_T.mask [true, true, true, true, false, false, true] ?_
        exact ih y1 y2 y3 (y6 + 1) (mm_up I 88 y6.toNatClampNeg (-1)) J rv sp rr w nw out e k
    · rw [if_neg h844] at e
      cases e
      refine mm_T.mask [true, true, true, true, false, false, false] ?_
      exact k
set_option maxRecDepth 100000 in
set_option maxHeartbeats 4000000 in
theorem tlX12_trips_L57 (d : Nat) (Q : Option Value → mm_H → Prop) : ∀ (n : Nat) (y1 : Int32) (y2 : Int32) (y3 : Int32) (y4 : Int32) (I : Nat → Nat → Int32) (J : Nat → Nat → Int64) (rv sp rr w nw : Nat), ∀ (out : Int32 × (Nat → Nat → Int32)), fX12_trips_L57 n y1 y2 y3 y4 I = some out → mm_T none (d + 3) 295 (156, [none, none, none, some (.int out.1), none, none, none], []) (107, out.2, J, mm_rf rv sp rr w nw) Q → mm_T none (d + 3) 295 (57, [some (.ref 62), some (.int y1), some (.int y2), some (.int y3), some (.int y4), none, none], []) (107, I, J, mm_rf rv sp rr w nw) Q := by
  intro n
  induction n with
  | zero =>
    intro y1 y2 y3 y4 I J rv sp rr w nw out e k
    rw [fX12_trips_L57] at e; cases e
  | succ n ih =>
    intro y1 y2 y3 y4 I J rv sp rr w nw out e k
    rw [fX12_trips_L57] at e
    refine mm_T.seg (f' := (59, [some (.ref 62), some (.int y1), some (.int y2), some (.int y3), some (.int y4), none, none], [(.int y4)])) (h' := (107, I, J, mm_rf rv sp rr w nw)) 1 rfl ?_
    refine mm_T.br (c := y4 = 0) (a := ((156, [some (.ref 62), some (.int y1), some (.int y2), some (.int y3), some (.int y4), none, none], []), (107, I, J, mm_rf rv sp rr w nw))) (b := ((62, [some (.ref 62), some (.int y1), some (.int y2), some (.int y3), some (.int y4), none, none], []), (107, I, J, mm_rf rv sp rr w nw))) rfl (fun h837 => ?_) (fun h837 => ?_)
    · rw [if_pos h837] at e
      cases e
      refine mm_T.mask [false, false, false, true, false, false, false] ?_
      exact k
    · rw [if_neg h837] at e
      refine mm_T.seg (f' := (64, [some (.ref 62), some (.int y1), some (.int y2), some (.int y3), some (.int y4), none, none], [(.int y2), (.ref 62)])) (h' := (107, I, J, mm_rf rv sp rr w nw)) 2 rfl ?_
      obtain ⟨o838, eo838, e⟩ := mm_bind e
      refine mm_T.call (t := 294) (as := [(.ref 62), (.int y2)]) (f' := (67, [some (.ref 62), some (.int y1), some (.int y2), some (.int y3), some (.int y4), none, none], [])) rfl (tX12_layBefore (d + 2) n y2 I J rv sp rr w nw o838 eo838) (fun v h hq => ?_)
      obtain ⟨rfl, rfl⟩ := hq
      refine mm_T.seg (f' := (72, [some (.ref 62), some (.int y1), some (.int y2), some (.int y3), some (.int y4), some (.int o838.1), none], [(.int y3), (.int o838.1)])) (h' := (107, o838.2, J, mm_rf rv sp rr w nw)) 3 rfl ?_
      refine mm_T.br (c := o838.1 < y3) (a := ((75, [some (.ref 62), some (.int y1), some (.int y2), some (.int y3), some (.int y4), some (.int o838.1), none], []), (107, o838.2, J, mm_rf rv sp rr w nw))) (b := ((146, [some (.ref 62), some (.int y1), some (.int y2), some (.int y3), some (.int y4), some (.int o838.1), none], []), (107, o838.2, J, mm_rf rv sp rr w nw))) rfl (fun h839 => ?_) (fun h839 => ?_)
      · rw [if_pos h839] at e
        refine mm_T.seg (f' := (82, [some (.ref 62), some (.int y1), some (.int y2), some (.int y3), some (.int y4), some (.int o838.1), none], [(.int y1), (.ref 80), (.int y2), (.ref 62)])) (h' := (107, o838.2, J, mm_rf rv sp rr w nw)) 5 rfl ?_
        by_cases h840 : y1 < 0 ∨ 4 ≤ y1.toNatClampNeg
        · rw [if_pos h840] at e; cases e
        rw [if_neg h840] at e
        refine mm_T.guard (y := ((83, [some (.ref 62), some (.int y1), some (.int y2), some (.int y3), some (.int y4), some (.int o838.1), none], [(.int (o838.2 80 y1.toNatClampNeg)), (.int y2), (.ref 62)]), (107, o838.2, J, mm_rf rv sp rr w nw))) rfl h840 ?_
        obtain ⟨o841, eo841, e⟩ := mm_bind e
        refine mm_T.call (t := 292) (as := [(.ref 62), (.int y2), (.int (o838.2 80 y1.toNatClampNeg))]) (f' := (86, [some (.ref 62), some (.int y1), some (.int y2), some (.int y3), some (.int y4), some (.int o838.1), none], [])) rfl (tX12_isFlat (d + 2) n y2 (o838.2 80 y1.toNatClampNeg) o838.2 J rv sp rr w nw o841 eo841) (fun v h hq => ?_)
        obtain ⟨rfl, rfl⟩ := hq
        refine mm_T.br (c := o841.1 = 0) (a := ((146, [some (.ref 62), some (.int y1), some (.int y2), some (.int y3), some (.int y4), some (.int o838.1), none], []), (107, o841.2, J, mm_rf rv sp rr w nw))) (b := ((89, [some (.ref 62), some (.int y1), some (.int y2), some (.int y3), some (.int y4), some (.int o838.1), none], []), (107, o841.2, J, mm_rf rv sp rr w nw))) rfl (fun h842 => ?_) (fun h842 => ?_)
        · rw [if_pos h842] at e
          refine mm_T.seg (f' := (148, [some (.ref 62), some (.int y1), some (.int y2), some (.int y3), some (.int y4), some (.int o838.1), none], [(.int y2), (.ref 62)])) (h' := (107, o841.2, J, mm_rf rv sp rr w nw)) 2 rfl ?_
          obtain ⟨o843, eo843, e⟩ := mm_bind e
          refine mm_T.call (t := 293) (as := [(.ref 62), (.int y2)]) (f' := (151, [some (.ref 62), some (.int y1), some (.int y2), some (.int y3), some (.int y4), some (.int o838.1), none], [])) rfl (tX12_nextTrips (d + 1) n y2 o841.2 J rv sp rr w nw o843 eo843) (fun v h hq => ?_)
          obtain ⟨rfl, rfl⟩ := hq
          refine mm_T.seg (f' := (57, [some (.ref 62), some (.int y1), some (.int y2), some (.int y3), some (.int o843.1), some (.int o838.1), none], [])) (h' := (107, o843.2, J, mm_rf rv sp rr w nw)) 2 rfl ?_
          refine mm_T.mask [true, true, true, true, true, false, false] ?_
          exact ih y1 y2 y3 o843.1 o843.2 J rv sp rr w nw out e k
        · rw [if_neg h842] at e
          refine mm_T.seg (f' := (95, [some (.ref 62), some (.int y1), some (.int y2), some (.int o838.1), some (.int y4), some (.int o838.1), some (.int 0)], [])) (h' := (107, o841.2, J, mm_rf rv sp rr w nw)) 4 rfl ?_
          refine mm_T.mask [true, true, true, true, false, false, true] ?_
          obtain ⟨o849, eo849, e⟩ := mm_bind e
          refine tlX12_trips_L95 d _ n y1 y2 o838.1 0 o841.2 J rv sp rr w nw o849 eo849 ?_
          refine mm_T.seg (f' := (148, [some (.ref 62), some (.int y1), some (.int y2), some (.int o838.1), none, none, none], [(.int y2), (.ref 62)])) (h' := (107, (mm_up o849 62 61 (o849 62 49)), J, mm_rf rv sp rr w nw)) 6 rfl ?_
          obtain ⟨o850, eo850, e⟩ := mm_bind e
          refine mm_T.call (t := 293) (as := [(.ref 62), (.int y2)]) (f' := (151, [some (.ref 62), some (.int y1), some (.int y2), some (.int o838.1), none, none, none], [])) rfl (tX12_nextTrips (d + 1) n y2 (mm_up o849 62 61 (o849 62 49)) J rv sp rr w nw o850 eo850) (fun v h hq => ?_)
          obtain ⟨rfl, rfl⟩ := hq
          refine mm_T.seg (f' := (57, [some (.ref 62), some (.int y1), some (.int y2), some (.int o838.1), some (.int o850.1), none, none], [])) (h' := (107, o850.2, J, mm_rf rv sp rr w nw)) 2 rfl ?_
          refine mm_T.mask [true, true, true, true, true, false, false] ?_
          exact ih y1 y2 o838.1 o850.1 o850.2 J rv sp rr w nw out e k
      · rw [if_neg h839] at e
        refine mm_T.seg (f' := (148, [some (.ref 62), some (.int y1), some (.int y2), some (.int y3), some (.int y4), some (.int o838.1), none], [(.int y2), (.ref 62)])) (h' := (107, o838.2, J, mm_rf rv sp rr w nw)) 2 rfl ?_
        obtain ⟨o851, eo851, e⟩ := mm_bind e
        refine mm_T.call (t := 293) (as := [(.ref 62), (.int y2)]) (f' := (151, [some (.ref 62), some (.int y1), some (.int y2), some (.int y3), some (.int y4), some (.int o838.1), none], [])) rfl (tX12_nextTrips (d + 1) n y2 o838.2 J rv sp rr w nw o851 eo851) (fun v h hq => ?_)
        obtain ⟨rfl, rfl⟩ := hq
        refine mm_T.seg (f' := (57, [some (.ref 62), some (.int y1), some (.int y2), some (.int y3), some (.int o851.1), some (.int o838.1), none], [])) (h' := (107, o851.2, J, mm_rf rv sp rr w nw)) 2 rfl ?_
        refine mm_T.mask [true, true, true, true, true, false, false] ?_
        exact ih y1 y2 y3 o851.1 o851.2 J rv sp rr w nw out e k
set_option maxRecDepth 100000 in
set_option maxHeartbeats 4000000 in
theorem tX12_trips (d n : Nat) (x1 : Int32) (I : Nat → Nat → Int32) (J : Nat → Nat → Int64) (rv sp rr w nw : Nat) (out : Int32 × (Nat → Nat → Int32)) (e : fX12_trips n x1 I = some out) : mm_T none (d + 3) 295 (mm_ent 295 [(.ref 62), (.int x1)]) (107, I, J, mm_rf rv sp rr w nw) (fun v h => v = some (.int out.1) ∧ h = (107, out.2, J, mm_rf rv sp rr w nw)) := by
  unfold fX12_trips at e
  refine mm_T.seg (f' := (7, [some (.ref 62), some (.int x1), none, none, none, none, none], [(.int x1), (.ref 62)])) (h' := (107, (mm_up I 62 61 0), J, mm_rf rv sp rr w nw)) 5 rfl ?_
  obtain ⟨o830, eo830, e⟩ := mm_bind e
  refine mm_T.call (t := 253) (as := [(.ref 62), (.int x1)]) (f' := (10, [some (.ref 62), some (.int x1), none, none, none, none, none], [])) rfl (tX12_isBoard (d + 1) x1 (mm_up I 62 61 0) J rv sp rr w nw o830 eo830) (fun v h hq => ?_)
  obtain ⟨rfl, rfl⟩ := hq
  refine mm_T.br (c := o830 = 0) (a := ((13, [some (.ref 62), some (.int x1), none, none, none, none, none], []), (107, (mm_up I 62 61 0), J, mm_rf rv sp rr w nw))) (b := ((15, [some (.ref 62), some (.int x1), none, none, none, none, none], []), (107, (mm_up I 62 61 0), J, mm_rf rv sp rr w nw))) rfl (fun h831 => ?_) (fun h831 => ?_)
  · rw [if_pos h831] at e
    refine mm_T.seg (f' := (14, [some (.ref 62), some (.int x1), none, none, none, none, none], [(.int (-1))])) (h' := (107, (mm_up I 62 61 0), J, mm_rf rv sp rr w nw)) 1 rfl ?_
    cases e
    exact mm_T.ret rfl ⟨rfl, rfl⟩
  · rw [if_neg h831] at e
    refine mm_T.seg (f' := (16, [some (.ref 62), some (.int x1), none, none, none, none, none], [(.ref 62)])) (h' := (107, (mm_up I 62 61 0), J, mm_rf rv sp rr w nw)) 1 rfl ?_
    obtain ⟨o832, eo832, e⟩ := mm_bind e
    refine mm_T.call (t := 291) (as := [(.ref 62)]) (f' := (19, [some (.ref 62), some (.int x1), none, none, none, none, none], [])) rfl (tX12_nearLoads (d + 0) n (mm_up I 62 61 0) J rv sp rr w nw o832 eo832) (fun v h hq => ?_)
    obtain ⟨rfl, rfl⟩ := hq
    refine mm_T.seg (f' := (27, [some (.ref 62), some (.int x1), some (.int o832.1), some (.int 1000000), some (.int 0), none, none], [])) (h' := (107, o832.2, J, mm_rf rv sp rr w nw)) 5 rfl ?_
    refine mm_T.mask [true, true, true, true, true, false, false] ?_
    obtain ⟨o835, eo835, e⟩ := mm_bind e
    refine tlX12_trips_L27 d _ n x1 o832.1 1000000 0 o832.2 J rv sp rr w nw o835 eo835 ?_
    refine mm_T.seg (f' := (50, [some (.ref 62), some (.int x1), some (.int o832.1), some (.int 1000000), none, none, none], [(.int o832.1), (.ref 62)])) (h' := (107, o835, J, mm_rf rv sp rr w nw)) 2 rfl ?_
    obtain ⟨o836, eo836, e⟩ := mm_bind e
    refine mm_T.call (t := 294) (as := [(.ref 62), (.int o832.1)]) (f' := (53, [some (.ref 62), some (.int x1), some (.int o832.1), some (.int 1000000), none, none, none], [])) rfl (tX12_layBefore (d + 2) n o832.1 o835 J rv sp rr w nw o836 eo836) (fun v h hq => ?_)
    obtain ⟨rfl, rfl⟩ := hq
    refine mm_T.seg (f' := (57, [some (.ref 62), some (.int x1), some (.int o832.1), some (.int 1000000), some (.int 1), none, none], [])) (h' := (107, o836.2, J, mm_rf rv sp rr w nw)) 3 rfl ?_
    refine mm_T.mask [true, true, true, true, true, false, false] ?_
    obtain ⟨o852, eo852, e⟩ := mm_bind e
    refine tlX12_trips_L57 d _ n x1 o832.1 1000000 1 o836.2 J rv sp rr w nw o852 eo852 ?_
    refine mm_T.seg (f' := (160, [none, none, none, some (.int o852.1), none, none, none], [(.int 1000000), (.int o852.1)])) (h' := (107, o852.2, J, mm_rf rv sp rr w nw)) 2 rfl ?_
    refine mm_T.br (c := o852.1 = 1000000) (a := ((163, [none, none, none, some (.int o852.1), none, none, none], []), (107, o852.2, J, mm_rf rv sp rr w nw))) (b := ((167, [none, none, none, some (.int o852.1), none, none, none], []), (107, o852.2, J, mm_rf rv sp rr w nw))) rfl (fun h853 => ?_) (fun h853 => ?_)
    · rw [if_pos h853] at e
      refine mm_T.seg (f' := (168, [none, none, none, some (.int o852.1), none, none, none], [(.int (-1))])) (h' := (107, o852.2, J, mm_rf rv sp rr w nw)) 2 rfl ?_
      cases e
      exact mm_T.ret rfl ⟨rfl, rfl⟩
    · rw [if_neg h853] at e
      refine mm_T.seg (f' := (168, [none, none, none, some (.int o852.1), none, none, none], [(.int o852.1)])) (h' := (107, o852.2, J, mm_rf rv sp rr w nw)) 1 rfl ?_
      cases e
      exact mm_T.ret rfl ⟨rfl, rfl⟩
set_option maxRecDepth 100000 in
set_option maxHeartbeats 4000000 in
theorem tlX12_stowBy_L17 (d : Nat) (Q : Option Value → mm_H → Prop) : ∀ (n : Nat) (y1 : Int32) (y3 : Int32) (y4 : Int32) (y5 : Int32) (I : Nat → Nat → Int32) (J : Nat → Nat → Int64) (rv sp rr w nw : Nat), ∀ (out : (Int32 ⊕ (Int32)) × (Nat → Nat → Int32)), fX12_stowBy_L17 n y1 y3 y4 y5 I = some out → (∀ (r : Int32) (s0 : Nat → Nat → Int32), out = (.inl r, s0) → Q (some (.int r)) (107, s0, J, mm_rf rv sp rr w nw)) → (∀ (y : Int32) (s0 : Nat → Nat → Int32), out = (.inr y, s0) → mm_T none (d + 1) 296 (97, [some (.ref 62), none, none, none, some (.int y), none, none], []) (107, s0, J, mm_rf rv sp rr w nw) Q) → mm_T none (d + 1) 296 (17, [some (.ref 62), some (.int y1), none, some (.int y3), some (.int y4), some (.int y5), none], []) (107, I, J, mm_rf rv sp rr w nw) Q := by
  intro n
  induction n with
  | zero =>
    intro y1 y3 y4 y5 I J rv sp rr w nw out e kr ke
    rw [fX12_stowBy_L17] at e; cases e
  | succ n ih =>
    intro y1 y3 y4 y5 I J rv sp rr w nw out e kr ke
    rw [fX12_stowBy_L17] at e
    refine mm_T.seg (f' := (19, [some (.ref 62), some (.int y1), none, some (.int y3), some (.int y4), some (.int y5), none], [(.int y5)])) (h' := (107, I, J, mm_rf rv sp rr w nw)) 1 rfl ?_
    refine mm_T.br (c := y5 < 0) (a := ((97, [some (.ref 62), some (.int y1), none, some (.int y3), some (.int y4), some (.int y5), none], []), (107, I, J, mm_rf rv sp rr w nw))) (b := ((22, [some (.ref 62), some (.int y1), none, some (.int y3), some (.int y4), some (.int y5), none], []), (107, I, J, mm_rf rv sp rr w nw))) rfl (fun h855 => ?_) (fun h855 => ?_)
    · rw [if_pos h855] at e
      cases e
      refine mm_T.mask [true, false, false, false, true, false, false] ?_
      exact ke _ _ rfl
    · rw [if_neg h855] at e
      refine mm_T.seg (f' := (37, [some (.ref 62), some (.int y1), none, some (.int (y3 / 4)), some (.int y4), some (.int y5), some (.int (y3 - y3 / 4 * 4))], [(.int ((y1 >>> (y5 &&& 31)) &&& 1))])) (h' := (107, I, J, mm_rf rv sp rr w nw)) 13 rfl ?_
      refine mm_T.br (c := ((y1 >>> (y5 &&& 31)) &&& 1) = 0) (a := ((40, [some (.ref 62), some (.int y1), none, some (.int (y3 / 4)), some (.int y4), some (.int y5), some (.int (y3 - y3 / 4 * 4))], []), (107, I, J, mm_rf rv sp rr w nw))) (b := ((47, [some (.ref 62), some (.int y1), none, some (.int (y3 / 4)), some (.int y4), some (.int y5), some (.int (y3 - y3 / 4 * 4))], []), (107, I, J, mm_rf rv sp rr w nw))) rfl (fun h856 => ?_) (fun h856 => ?_)
      · rw [if_pos h856] at e
        refine mm_T.seg (f' := (42, [some (.ref 62), some (.int y1), none, some (.int (y3 / 4)), some (.int y4), some (.int y5), some (.int (y3 - y3 / 4 * 4))], [(.int (y3 - y3 / 4 * 4))])) (h' := (107, I, J, mm_rf rv sp rr w nw)) 1 rfl ?_
        refine mm_T.br (c := 0 < (y3 - y3 / 4 * 4)) (a := ((45, [some (.ref 62), some (.int y1), none, some (.int (y3 / 4)), some (.int y4), some (.int y5), some (.int (y3 - y3 / 4 * 4))], []), (107, I, J, mm_rf rv sp rr w nw))) (b := ((91, [some (.ref 62), some (.int y1), none, some (.int (y3 / 4)), some (.int y4), some (.int y5), some (.int (y3 - y3 / 4 * 4))], []), (107, I, J, mm_rf rv sp rr w nw))) rfl (fun h857 => ?_) (fun h857 => ?_)
        · rw [if_pos h857] at e
          refine mm_T.seg (f' := (46, [some (.ref 62), some (.int y1), none, some (.int (y3 / 4)), some (.int y4), some (.int y5), some (.int (y3 - y3 / 4 * 4))], [(.int (-1))])) (h' := (107, I, J, mm_rf rv sp rr w nw)) 1 rfl ?_
          cases e
          exact mm_T.ret rfl (kr _ _ rfl)
        · rw [if_neg h857] at e
          refine mm_T.seg (f' := (17, [some (.ref 62), some (.int y1), none, some (.int (y3 / 4)), some (.int y4), some (.int (y5 + (-1))), some (.int (y3 - y3 / 4 * 4))], [])) (h' := (107, I, J, mm_rf rv sp rr w nw)) 2 rfl ?_
          refine mm_T.mask [true, true, false, true, true, true, false] ?_
          exact ih y1 (y3 / 4) y4 (y5 + (-1)) I J rv sp rr w nw out e kr ke
      · rw [if_neg h856] at e
        refine mm_T.seg (f' := (53, [some (.ref 62), some (.int y1), none, some (.int (y3 / 4)), some (.int y4), some (.int y5), some (.int (y3 - y3 / 4 * 4))], [(.int (I 62 48)), (.int (y3 - y3 / 4 * 4))])) (h' := (107, I, J, mm_rf rv sp rr w nw)) 3 rfl ?_
        refine mm_T.br (c := (y3 - y3 / 4 * 4) < (I 62 48)) (a := ((56, [some (.ref 62), some (.int y1), none, some (.int (y3 / 4)), some (.int y4), some (.int y5), some (.int (y3 - y3 / 4 * 4))], []), (107, I, J, mm_rf rv sp rr w nw))) (b := ((68, [some (.ref 62), some (.int y1), none, some (.int (y3 / 4)), some (.int y4), some (.int y5), some (.int (y3 - y3 / 4 * 4))], []), (107, I, J, mm_rf rv sp rr w nw))) rfl (fun h858 => ?_) (fun h858 => ?_)
        · rw [if_pos h858] at e
          refine mm_T.seg (f' := (64, [some (.ref 62), some (.int y1), none, some (.int (y3 / 4)), some (.int y4), some (.int y5), some (.int (y3 - y3 / 4 * 4))], [(.int (4 + (y3 - y3 / 4 * 4))), (.ref 84)])) (h' := (107, I, J, mm_rf rv sp rr w nw)) 5 rfl ?_
          by_cases h859 : (4 + (y3 - y3 / 4 * 4)) < 0 ∨ 28 ≤ (4 + (y3 - y3 / 4 * 4)).toNatClampNeg
          · rw [if_pos h859] at e; cases e
          rw [if_neg h859] at e
          refine mm_T.guard (c := (4 + (y3 - y3 / 4 * 4)) < 0 ∨ 28 ≤ (4 + (y3 - y3 / 4 * 4)).toNatClampNeg) (y := ((65, [some (.ref 62), some (.int y1), none, some (.int (y3 / 4)), some (.int y4), some (.int y5), some (.int (y3 - y3 / 4 * 4))], [(.int (I 84 (4 + (y3 - y3 / 4 * 4)).toNatClampNeg))]), (107, I, J, mm_rf rv sp rr w nw))) (mm_gen (P := fun z => mm_stp none 296 (64, [some (.ref 62), some (.int y1), none, some (.int (y3 / 4)), some (.int y4), some (.int y5), some (.int (y3 - y3 / 4 * 4))], [(.int z), (.ref 84)]) (107, I, J, mm_rf rv sp rr w nw) = if z < 0 ∨ 28 ≤ z.toNatClampNeg then none else some (.inl ((65, [some (.ref 62), some (.int y1), none, some (.int (y3 / 4)), some (.int y4), some (.int y5), some (.int (y3 - y3 / 4 * 4))], [(.int (I 84 z.toNatClampNeg))]), (107, I, J, mm_rf rv sp rr w nw)))) (4 + (y3 - y3 / 4 * 4)) (fun z => rfl)) h859 ?_
          refine mm_T.br (c := 0 < (I 84 (4 + (y3 - y3 / 4 * 4)).toNatClampNeg)) (a := ((68, [some (.ref 62), some (.int y1), none, some (.int (y3 / 4)), some (.int y4), some (.int y5), some (.int (y3 - y3 / 4 * 4))], []), (107, I, J, mm_rf rv sp rr w nw))) (b := ((70, [some (.ref 62), some (.int y1), none, some (.int (y3 / 4)), some (.int y4), some (.int y5), some (.int (y3 - y3 / 4 * 4))], []), (107, I, J, mm_rf rv sp rr w nw))) rfl (fun h860 => ?_) (fun h860 => ?_)
          · rw [if_pos h860] at e
            refine mm_T.seg (f' := (69, [some (.ref 62), some (.int y1), none, some (.int (y3 / 4)), some (.int y4), some (.int y5), some (.int (y3 - y3 / 4 * 4))], [(.int (-1))])) (h' := (107, I, J, mm_rf rv sp rr w nw)) 1 rfl ?_
            cases e
            exact mm_T.ret rfl (kr _ _ rfl)
          · rw [if_neg h860] at e
            refine mm_T.seg (f' := (81, [some (.ref 62), some (.int y1), none, some (.int (y3 / 4)), some (.int y4), some (.int y5), some (.int (y3 - y3 / 4 * 4))], [(.int (y3 - y3 / 4 * 4)), (.int (20 + y5)), (.ref 85)])) (h' := (107, I, J, mm_rf rv sp rr w nw)) 6 rfl ?_
            by_cases h861 : (20 + y5) < 0 ∨ 28 ≤ (20 + y5).toNatClampNeg
            · rw [if_pos h861] at e; cases e
            rw [if_neg h861] at e
            refine mm_T.guard (c := (20 + y5) < 0 ∨ 28 ≤ (20 + y5).toNatClampNeg) (y := ((82, [some (.ref 62), some (.int y1), none, some (.int (y3 / 4)), some (.int y4), some (.int y5), some (.int (y3 - y3 / 4 * 4))], []), (107, (mm_up I 85 (20 + y5).toNatClampNeg (y3 - y3 / 4 * 4)), J, mm_rf rv sp rr w nw))) (mm_gen (P := fun z => mm_stp none 296 (81, [some (.ref 62), some (.int y1), none, some (.int (y3 / 4)), some (.int y4), some (.int y5), some (.int (y3 - y3 / 4 * 4))], [(.int (y3 - y3 / 4 * 4)), (.int z), (.ref 85)]) (107, I, J, mm_rf rv sp rr w nw) = if z < 0 ∨ 28 ≤ z.toNatClampNeg then none else some (.inl ((82, [some (.ref 62), some (.int y1), none, some (.int (y3 / 4)), some (.int y4), some (.int y5), some (.int (y3 - y3 / 4 * 4))], []), (107, (mm_up I 85 z.toNatClampNeg (y3 - y3 / 4 * 4)), J, mm_rf rv sp rr w nw)))) (20 + y5) (fun z => rfl)) h861 ?_
            refine mm_T.seg (f' := (17, [some (.ref 62), some (.int y1), none, some (.int (y3 / 4)), some (.int (y4 ||| ((1 : Int32) <<< ((y3 - y3 / 4 * 4) &&& 31)))), some (.int (y5 + (-1))), some (.int (y3 - y3 / 4 * 4))], [])) (h' := (107, (mm_up I 85 (20 + y5).toNatClampNeg (y3 - y3 / 4 * 4)), J, mm_rf rv sp rr w nw)) 8 rfl ?_
            refine mm_T.mask [true, true, false, true, true, true, false] ?_
            exact ih y1 (y3 / 4) (y4 ||| ((1 : Int32) <<< ((y3 - y3 / 4 * 4) &&& 31))) (y5 + (-1)) (mm_up I 85 (20 + y5).toNatClampNeg (y3 - y3 / 4 * 4)) J rv sp rr w nw out e kr ke
        · rw [if_neg h858] at e
          refine mm_T.seg (f' := (69, [some (.ref 62), some (.int y1), none, some (.int (y3 / 4)), some (.int y4), some (.int y5), some (.int (y3 - y3 / 4 * 4))], [(.int (-1))])) (h' := (107, I, J, mm_rf rv sp rr w nw)) 1 rfl ?_
          cases e
          exact mm_T.ret rfl (kr _ _ rfl)
set_option maxRecDepth 100000 in
set_option maxHeartbeats 4000000 in
theorem tlX12_stowBy_L100 (d : Nat) (Q : Option Value → mm_H → Prop) : ∀ (n : Nat) (y4 : Int32) (y5 : Int32) (I : Nat → Nat → Int32) (J : Nat → Nat → Int64) (rv sp rr w nw : Nat), ∀ (out : (Int32 ⊕ (Unit))), fX12_stowBy_L100 n y4 y5 I = some out → (∀ (r : Int32), out = .inl r → Q (some (.int r)) (107, I, J, mm_rf rv sp rr w nw)) → (∀ (y : Unit), out = .inr y → mm_T none (d + 1) 296 (144, [none, none, none, none, some (.int y4), none, none], []) (107, I, J, mm_rf rv sp rr w nw) Q) → mm_T none (d + 1) 296 (100, [some (.ref 62), none, none, none, some (.int y4), some (.int y5), none], []) (107, I, J, mm_rf rv sp rr w nw) Q := by
  intro n
  induction n with
  | zero =>
    intro y4 y5 I J rv sp rr w nw out e kr ke
    rw [fX12_stowBy_L100] at e; cases e
  | succ n ih =>
    intro y4 y5 I J rv sp rr w nw out e kr ke
    rw [fX12_stowBy_L100] at e
    refine mm_T.seg (f' := (106, [some (.ref 62), none, none, none, some (.int y4), some (.int y5), none], [(.int (I 62 48)), (.int y5)])) (h' := (107, I, J, mm_rf rv sp rr w nw)) 3 rfl ?_
    refine mm_T.br (c := y5 < (I 62 48)) (a := ((109, [some (.ref 62), none, none, none, some (.int y4), some (.int y5), none], []), (107, I, J, mm_rf rv sp rr w nw))) (b := ((144, [some (.ref 62), none, none, none, some (.int y4), some (.int y5), none], []), (107, I, J, mm_rf rv sp rr w nw))) rfl (fun h869 => ?_) (fun h869 => ?_)
    · rw [if_pos h869] at e
      refine mm_T.seg (f' := (117, [some (.ref 62), none, none, none, some (.int y4), some (.int y5), none], [(.int 1), (.int ((y4 >>> (y5 &&& 31)) &&& 1))])) (h' := (107, I, J, mm_rf rv sp rr w nw)) 6 rfl ?_
      refine mm_T.br (c := ((y4 >>> (y5 &&& 31)) &&& 1) = 1) (a := ((120, [some (.ref 62), none, none, none, some (.int y4), some (.int y5), none], []), (107, I, J, mm_rf rv sp rr w nw))) (b := ((138, [some (.ref 62), none, none, none, some (.int y4), some (.int y5), none], []), (107, I, J, mm_rf rv sp rr w nw))) rfl (fun h870 => ?_) (fun h870 => ?_)
      · rw [if_pos h870] at e
        refine mm_T.seg (f' := (123, [some (.ref 62), none, none, none, some (.int y4), some (.int y5), none], [(.int y5), (.ref 62)])) (h' := (107, I, J, mm_rf rv sp rr w nw)) 2 rfl ?_
        obtain ⟨o871, eo871, e⟩ := mm_bind e
        refine mm_T.call (t := 240) (as := [(.ref 62), (.int y5)]) (f' := (126, [some (.ref 62), none, none, none, some (.int y4), some (.int y5), none], [])) rfl (tX12_burdenOf (d + 0) n y5 I J rv sp rr w nw o871 eo871) (fun v h hq => ?_)
        obtain ⟨rfl, rfl⟩ := hq
        refine mm_T.seg (f' := (132, [some (.ref 62), none, none, none, some (.int y4), some (.int y5), none], [(.int y5), (.ref 80), (.int o871)])) (h' := (107, I, J, mm_rf rv sp rr w nw)) 3 rfl ?_
        by_cases h872 : y5 < 0 ∨ 4 ≤ y5.toNatClampNeg
        · rw [if_pos h872] at e; cases e
        rw [if_neg h872] at e
        refine mm_T.guard (y := ((133, [some (.ref 62), none, none, none, some (.int y4), some (.int y5), none], [(.int (I 80 y5.toNatClampNeg)), (.int o871)]), (107, I, J, mm_rf rv sp rr w nw))) rfl h872 ?_
        refine mm_T.br (c := (I 80 y5.toNatClampNeg) < o871) (a := ((136, [some (.ref 62), none, none, none, some (.int y4), some (.int y5), none], []), (107, I, J, mm_rf rv sp rr w nw))) (b := ((138, [some (.ref 62), none, none, none, some (.int y4), some (.int y5), none], []), (107, I, J, mm_rf rv sp rr w nw))) rfl (fun h873 => ?_) (fun h873 => ?_)
        · rw [if_pos h873] at e
          refine mm_T.seg (f' := (137, [some (.ref 62), none, none, none, some (.int y4), some (.int y5), none], [(.int (-1))])) (h' := (107, I, J, mm_rf rv sp rr w nw)) 1 rfl ?_
          cases e
          exact mm_T.ret rfl (kr _ rfl)
        · rw [if_neg h873] at e
          refine mm_T.seg (f' := (100, [some (.ref 62), none, none, none, some (.int y4), some (.int (y5 + 1)), none], [])) (h' := (107, I, J, mm_rf rv sp rr w nw)) 2 rfl ?_
          refine mm_T.mask [true, false, false, false, true, true, false] ?_
          exact ih y4 (y5 + 1) I J rv sp rr w nw out e kr ke
      · rw [if_neg h870] at e
        refine mm_T.seg (f' := (100, [some (.ref 62), none, none, none, some (.int y4), some (.int (y5 + 1)), none], [])) (h' := (107, I, J, mm_rf rv sp rr w nw)) 2 rfl ?_
        refine mm_T.mask [true, false, false, false, true, true, false] ?_
        exact ih y4 (y5 + 1) I J rv sp rr w nw out e kr ke
    · rw [if_neg h869] at e
      cases e
      refine mm_T.mask [false, false, false, false, true, false, false] ?_
      exact ke _ rfl
set_option maxRecDepth 100000 in
set_option maxHeartbeats 4000000 in
theorem tX12_stowBy (d n : Nat) (x1 : Int32) (x2 : Int32) (I : Nat → Nat → Int32) (J : Nat → Nat → Int64) (rv sp rr w nw : Nat) (out : Int32 × (Nat → Nat → Int32)) (e : fX12_stowBy n x1 x2 I = some out) : mm_T none (d + 1) 296 (mm_ent 296 [(.ref 62), (.int x1), (.int x2)]) (107, I, J, mm_rf rv sp rr w nw) (fun v h => v = some (.int out.1) ∧ h = (107, out.2, J, mm_rf rv sp rr w nw)) := by
  unfold fX12_stowBy at e
  refine mm_T.seg (f' := (1, [some (.ref 62), some (.int x1), some (.int x2), none, none, none, none], [(.ref 62)])) (h' := (107, I, J, mm_rf rv sp rr w nw)) 1 rfl ?_
  obtain ⟨o854, eo854, e⟩ := mm_bind e
  refine mm_T.call (t := 256) (as := [(.ref 62)]) (f' := (4, [some (.ref 62), some (.int x1), some (.int x2), none, none, none, none], [])) rfl (tX12_fill (d + 0) n I J rv sp rr w nw o854 eo854) (fun v h hq => ?_)
  obtain ⟨rfl, rfl⟩ := hq
  refine mm_T.seg (f' := (17, [some (.ref 62), some (.int x1), some (.int x2), some (.int x2), some (.int 0), some (.int ((o854 62 49) - 1)), none], [])) (h' := (107, o854, J, mm_rf rv sp rr w nw)) 9 rfl ?_
  refine mm_T.mask [true, true, false, true, true, true, false] ?_
  obtain ⟨o862, eo862, e⟩ := mm_bind e
  rcases o862 with ⟨va863 | vb863, vs863_0⟩
  · cases e
    refine tlX12_stowBy_L17 d _ n x1 x2 0 ((o854 62 49) - 1) o854 J rv sp rr w nw _ eo862 (fun z z0 hz => ?_) (fun z z0 hz => ?_)
    · cases hz; exact ⟨rfl, rfl⟩
    · cases hz
  · refine tlX12_stowBy_L17 d _ n x1 x2 0 ((o854 62 49) - 1) o854 J rv sp rr w nw (.inr vb863, vs863_0) eo862 (fun z z0 hz => ?_) (fun z z0 hz => ?_)
    · cases hz
    · cases hz
      refine mm_T.seg (f' := (100, [some (.ref 62), none, none, none, some (.int vb863), some (.int 0), none], [])) (h' := (107, vs863_0, J, mm_rf rv sp rr w nw)) 2 rfl ?_
      refine mm_T.mask [true, false, false, false, true, true, false] ?_
      obtain ⟨o874, eo874, e⟩ := mm_bind e
      rcases o874 with va875 | vb875
      · cases e
        refine tlX12_stowBy_L100 d _ n vb863 0 vs863_0 J rv sp rr w nw _ eo874 (fun z hz => ?_) (fun z hz => ?_)
        · cases hz; exact ⟨rfl, rfl⟩
        · cases hz
      · refine tlX12_stowBy_L100 d _ n vb863 0 vs863_0 J rv sp rr w nw (.inr vb875) eo874 (fun z hz => ?_) (fun z hz => ?_)
        · cases hz
        · cases hz
          refine mm_T.seg (f' := (146, [none, none, none, none, some (.int vb863), none, none], [(.int vb863)])) (h' := (107, vs863_0, J, mm_rf rv sp rr w nw)) 1 rfl ?_
          cases e
          exact mm_T.ret rfl ⟨rfl, rfl⟩
set_option maxRecDepth 100000 in
set_option maxHeartbeats 4000000 in
theorem tlX12_stowing_L62 (d : Nat) (Q : Option Value → mm_H → Prop) : ∀ (n : Nat) (y1 : Int32) (y2 : Int32) (y3 : Int32) (y5 : Int32) (I : Nat → Nat → Int32) (J : Nat → Nat → Int64) (rv sp rr w nw : Nat), ∀ (out : (Nat → Nat → Int32)), fX12_stowing_L62 n y1 y2 y3 y5 I = some out → mm_T none (d + 3) 297 (108, [some (.ref 62), some (.int y1), some (.int y2), some (.int y3), none, none], []) (107, out, J, mm_rf rv sp rr w nw) Q → mm_T none (d + 3) 297 (62, [some (.ref 62), some (.int y1), some (.int y2), some (.int y3), none, some (.int y5)], []) (107, I, J, mm_rf rv sp rr w nw) Q := by
  intro n
  induction n with
  | zero =>
    intro y1 y2 y3 y5 I J rv sp rr w nw out e k
    rw [fX12_stowing_L62] at e; cases e
  | succ n ih =>
    intro y1 y2 y3 y5 I J rv sp rr w nw out e k
    rw [fX12_stowing_L62] at e
    refine mm_T.seg (f' := (68, [some (.ref 62), some (.int y1), some (.int y2), some (.int y3), none, some (.int y5)], [(.int (I 62 49)), (.int y5)])) (h' := (107, I, J, mm_rf rv sp rr w nw)) 3 rfl ?_
    refine mm_T.br (c := y5 < (I 62 49)) (a := ((71, [some (.ref 62), some (.int y1), some (.int y2), some (.int y3), none, some (.int y5)], []), (107, I, J, mm_rf rv sp rr w nw))) (b := ((108, [some (.ref 62), some (.int y1), some (.int y2), some (.int y3), none, some (.int y5)], []), (107, I, J, mm_rf rv sp rr w nw))) rfl (fun h884 => ?_) (fun h884 => ?_)
    · rw [if_pos h884] at e
      refine mm_T.seg (f' := (84, [some (.ref 62), some (.int y1), some (.int y2), some (.int y3), none, some (.int y5)], [(.int 1), (.int ((y1 >>> (y5 &&& 31)) &&& 1)), (.int y5), (.ref 88)])) (h' := (107, I, J, mm_rf rv sp rr w nw)) 9 rfl ?_
      refine mm_T.br (c := ((y1 >>> (y5 &&& 31)) &&& 1) = 1) (a := ((87, [some (.ref 62), some (.int y1), some (.int y2), some (.int y3), none, some (.int y5)], [(.int y5), (.ref 88)]), (107, I, J, mm_rf rv sp rr w nw))) (b := ((100, [some (.ref 62), some (.int y1), some (.int y2), some (.int y3), none, some (.int y5)], [(.int y5), (.ref 88)]), (107, I, J, mm_rf rv sp rr w nw))) rfl (fun h885 => ?_) (fun h885 => ?_)
      · rw [if_pos h885] at e
        refine mm_T.seg (f' := (96, [some (.ref 62), some (.int y1), some (.int y2), some (.int y3), none, some (.int y5)], [(.int (20 + y5)), (.ref 85), (.int y5), (.ref 88)])) (h' := (107, I, J, mm_rf rv sp rr w nw)) 5 rfl ?_
        by_cases h886 : (20 + y5) < 0 ∨ 28 ≤ (20 + y5).toNatClampNeg
        · rw [if_pos h886] at e; cases e
        rw [if_neg h886] at e
        refine mm_T.guard (c := (20 + y5) < 0 ∨ 28 ≤ (20 + y5).toNatClampNeg) (y := ((97, [some (.ref 62), some (.int y1), some (.int y2), some (.int y3), none, some (.int y5)], [(.int (I 85 (20 + y5).toNatClampNeg)), (.int y5), (.ref 88)]), (107, I, J, mm_rf rv sp rr w nw))) (mm_gen (P := fun z => mm_stp none 297 (96, [some (.ref 62), some (.int y1), some (.int y2), some (.int y3), none, some (.int y5)], [(.int z), (.ref 85), (.int y5), (.ref 88)]) (107, I, J, mm_rf rv sp rr w nw) = if z < 0 ∨ 28 ≤ z.toNatClampNeg then none else some (.inl ((97, [some (.ref 62), some (.int y1), some (.int y2), some (.int y3), none, some (.int y5)], [(.int (I 85 z.toNatClampNeg)), (.int y5), (.ref 88)]), (107, I, J, mm_rf rv sp rr w nw)))) (20 + y5) (fun z => rfl)) h886 ?_
        refine mm_T.seg (f' := (101, [some (.ref 62), some (.int y1), some (.int y2), some (.int y3), none, some (.int y5)], [(.int (I 85 (20 + y5).toNatClampNeg)), (.int y5), (.ref 88)])) (h' := (107, I, J, mm_rf rv sp rr w nw)) 1 rfl ?_
        by_cases h887 : y5 < 0 ∨ 7 ≤ y5.toNatClampNeg
        · rw [if_pos h887] at e; cases e
        rw [if_neg h887] at e
        refine mm_T.guard (y := ((102, [some (.ref 62), some (.int y1), some (.int y2), some (.int y3), none, some (.int y5)], []), (107, (mm_up I 88 y5.toNatClampNeg (I 85 (20 + y5).toNatClampNeg)), J, mm_rf rv sp rr w nw))) rfl h887 ?_
        refine mm_T.seg (f' := (62, [some (.ref 62), some (.int y1), some (.int y2), some (.int y3), none, some (.int (y5 + 1))], [])) (h' := (107, (mm_up I 88 y5.toNatClampNeg (I 85 (20 + y5).toNatClampNeg)), J, mm_rf rv sp rr w nw)) 2 rfl ?_
        refine mm_T.mask [true, true, true, true, false, true] ?_
        exact ih y1 y2 y3 (y5 + 1) (mm_up I 88 y5.toNatClampNeg (I 85 (20 + y5).toNatClampNeg)) J rv sp rr w nw out e k
      · rw [if_neg h885] at e
        refine mm_T.seg (f' := (101, [some (.ref 62), some (.int y1), some (.int y2), some (.int y3), none, some (.int y5)], [(.int (-1)), (.int y5), (.ref 88)])) (h' := (107, I, J, mm_rf rv sp rr w nw)) 1 rfl ?_
        by_cases h888 : y5 < 0 ∨ 7 ≤ y5.toNatClampNeg
        · rw [if_pos h888] at e; cases e
        rw [if_neg h888] at e
        refine mm_T.guard (y := ((102, [some (.ref 62), some (.int y1), some (.int y2), some (.int y3), none, some (.int y5)], []), (107, (mm_up I 88 y5.toNatClampNeg (-1)), J, mm_rf rv sp rr w nw))) rfl h888 ?_
        refine mm_T.seg (f' := (62, [some (.ref 62), some (.int y1), some (.int y2), some (.int y3), none, some (.int (y5 + 1))], [])) (h' := (107, (mm_up I 88 y5.toNatClampNeg (-1)), J, mm_rf rv sp rr w nw)) 2 rfl ?_
        refine mm_T.mask [true, true, true, true, false, true] ?_
        exact ih y1 y2 y3 (y5 + 1) (mm_up I 88 y5.toNatClampNeg (-1)) J rv sp rr w nw out e k
    · rw [if_neg h884] at e
      cases e
      refine mm_T.mask [true, true, true, true, false, false] ?_
      exact k
set_option maxRecDepth 100000 in
set_option maxHeartbeats 4000000 in
theorem tlX12_stowing_L16 (d : Nat) (Q : Option Value → mm_H → Prop) : ∀ (n : Nat) (y1 : Int32) (y2 : Int32) (y3 : Int32) (I : Nat → Nat → Int32) (J : Nat → Nat → Int64) (rv sp rr w nw : Nat), ∀ (out : Int32 × (Nat → Nat → Int32)), fX12_stowing_L16 n y1 y2 y3 I = some out → mm_T none (d + 3) 297 (122, [none, none, some (.int out.1), none, none, none], []) (107, out.2, J, mm_rf rv sp rr w nw) Q → mm_T none (d + 3) 297 (16, [some (.ref 62), some (.int y1), some (.int y2), some (.int y3), none, none], []) (107, I, J, mm_rf rv sp rr w nw) Q := by
  intro n
  induction n with
  | zero =>
    intro y1 y2 y3 I J rv sp rr w nw out e k
    rw [fX12_stowing_L16] at e; cases e
  | succ n ih =>
    intro y1 y2 y3 I J rv sp rr w nw out e k
    rw [fX12_stowing_L16] at e
    refine mm_T.seg (f' := (22, [some (.ref 62), some (.int y1), some (.int y2), some (.int y3), none, none], [(.int (I 62 49)), (.int 4), (.int y3)])) (h' := (107, I, J, mm_rf rv sp rr w nw)) 4 rfl ?_
    obtain ⟨o877, eo877, e⟩ := mm_bind e
    refine mm_T.call (t := 277) (as := [(.int 4), (.int (I 62 49))]) (f' := (25, [some (.ref 62), some (.int y1), some (.int y2), some (.int y3), none, none], [(.int y3)])) rfl (tX12_power (d + 2) n 4 (I 62 49) I J rv sp rr w nw o877 eo877) (fun v h hq => ?_)
    obtain ⟨rfl, rfl⟩ := hq
    refine mm_T.br (c := y3 < o877) (a := ((28, [some (.ref 62), some (.int y1), some (.int y2), some (.int y3), none, none], []), (107, I, J, mm_rf rv sp rr w nw))) (b := ((122, [some (.ref 62), some (.int y1), some (.int y2), some (.int y3), none, none], []), (107, I, J, mm_rf rv sp rr w nw))) rfl (fun h878 => ?_) (fun h878 => ?_)
    · rw [if_pos h878] at e
      refine mm_T.seg (f' := (31, [some (.ref 62), some (.int y1), some (.int y2), some (.int y3), none, none], [(.int y3), (.int y1), (.ref 62)])) (h' := (107, I, J, mm_rf rv sp rr w nw)) 3 rfl ?_
      obtain ⟨o879, eo879, e⟩ := mm_bind e
      refine mm_T.call (t := 296) (as := [(.ref 62), (.int y1), (.int y3)]) (f' := (34, [some (.ref 62), some (.int y1), some (.int y2), some (.int y3), none, none], [])) rfl (tX12_stowBy (d + 1) n y1 y3 I J rv sp rr w nw o879 eo879) (fun v h hq => ?_)
      obtain ⟨rfl, rfl⟩ := hq
      refine mm_T.seg (f' := (38, [some (.ref 62), some (.int y1), some (.int y2), some (.int y3), some (.int o879.1), none], [(.int o879.1)])) (h' := (107, o879.2, J, mm_rf rv sp rr w nw)) 2 rfl ?_
      refine mm_T.br (c := o879.1 < 0) (a := ((116, [some (.ref 62), some (.int y1), some (.int y2), some (.int y3), some (.int o879.1), none], []), (107, o879.2, J, mm_rf rv sp rr w nw))) (b := ((41, [some (.ref 62), some (.int y1), some (.int y2), some (.int y3), some (.int o879.1), none], []), (107, o879.2, J, mm_rf rv sp rr w nw))) rfl (fun h880 => ?_) (fun h880 => ?_)
      · rw [if_pos h880] at e
        refine mm_T.seg (f' := (16, [some (.ref 62), some (.int y1), some (.int y2), some (.int (y3 + 1)), some (.int o879.1), none], [])) (h' := (107, o879.2, J, mm_rf rv sp rr w nw)) 2 rfl ?_
        refine mm_T.mask [true, true, true, true, false, false] ?_
        exact ih y1 y2 (y3 + 1) o879.2 J rv sp rr w nw out e k
      · rw [if_neg h880] at e
        refine mm_T.seg (f' := (43, [some (.ref 62), some (.int y1), some (.int y2), some (.int y3), some (.int o879.1), none], [(.int o879.1)])) (h' := (107, o879.2, J, mm_rf rv sp rr w nw)) 1 rfl ?_
        obtain ⟨o881, eo881, e⟩ := mm_bind e
        refine mm_T.call (t := 255) (as := [(.int o879.1)]) (f' := (46, [some (.ref 62), some (.int y1), some (.int y2), some (.int y3), some (.int o879.1), none], [])) rfl (tX12_members (d + 2) n o879.1 o879.2 J rv sp rr w nw o881 eo881) (fun v h hq => ?_)
        obtain ⟨rfl, rfl⟩ := hq
        refine mm_T.seg (f' := (47, [some (.ref 62), some (.int y1), some (.int y2), some (.int y3), some (.int o879.1), none], [(.int y2), (.int o881)])) (h' := (107, o879.2, J, mm_rf rv sp rr w nw)) 1 rfl ?_
        refine mm_T.br (c := o881 < y2) (a := ((53, [some (.ref 62), some (.int y1), some (.int y2), some (.int y3), some (.int o879.1), none], []), (107, o879.2, J, mm_rf rv sp rr w nw))) (b := ((50, [some (.ref 62), some (.int y1), some (.int y2), some (.int y3), some (.int o879.1), none], []), (107, o879.2, J, mm_rf rv sp rr w nw))) rfl (fun h882 => ?_) (fun h882 => ?_)
        · rw [if_pos h882] at e
          refine mm_T.seg (f' := (55, [some (.ref 62), some (.int y1), some (.int y2), some (.int y3), some (.int o879.1), none], [(.int o879.1)])) (h' := (107, o879.2, J, mm_rf rv sp rr w nw)) 1 rfl ?_
          obtain ⟨o883, eo883, e⟩ := mm_bind e
          refine mm_T.call (t := 255) (as := [(.int o879.1)]) (f' := (58, [some (.ref 62), some (.int y1), some (.int y2), some (.int y3), some (.int o879.1), none], [])) rfl (tX12_members (d + 2) n o879.1 o879.2 J rv sp rr w nw o883 eo883) (fun v h hq => ?_)
          obtain ⟨rfl, rfl⟩ := hq
          refine mm_T.seg (f' := (62, [some (.ref 62), some (.int y1), some (.int o883), some (.int y3), some (.int o879.1), some (.int 0)], [])) (h' := (107, o879.2, J, mm_rf rv sp rr w nw)) 3 rfl ?_
          refine mm_T.mask [true, true, true, true, false, true] ?_
          obtain ⟨o889, eo889, e⟩ := mm_bind e
          refine tlX12_stowing_L62 d _ n y1 o883 y3 0 o879.2 J rv sp rr w nw o889 eo889 ?_
          refine mm_T.seg (f' := (16, [some (.ref 62), some (.int y1), some (.int o883), some (.int (y3 + 1)), none, none], [])) (h' := (107, (mm_up o889 62 61 (o889 62 49)), J, mm_rf rv sp rr w nw)) 6 rfl ?_
          refine mm_T.mask [true, true, true, true, false, false] ?_
          exact ih y1 o883 (y3 + 1) (mm_up o889 62 61 (o889 62 49)) J rv sp rr w nw out e k
        · rw [if_neg h882] at e
          refine mm_T.seg (f' := (16, [some (.ref 62), some (.int y1), some (.int y2), some (.int (y3 + 1)), some (.int o879.1), none], [])) (h' := (107, o879.2, J, mm_rf rv sp rr w nw)) 3 rfl ?_
          refine mm_T.mask [true, true, true, true, false, false] ?_
          exact ih y1 y2 (y3 + 1) o879.2 J rv sp rr w nw out e k
    · rw [if_neg h878] at e
      cases e
      refine mm_T.mask [false, false, true, false, false, false] ?_
      exact k
set_option maxRecDepth 100000 in
set_option maxHeartbeats 4000000 in
theorem tX12_stowing (d n : Nat) (I : Nat → Nat → Int32) (J : Nat → Nat → Int64) (rv sp rr w nw : Nat) (out : Int32 × (Nat → Nat → Int32)) (e : fX12_stowing n I = some out) : mm_T none (d + 3) 297 (mm_ent 297 [(.ref 62)]) (107, I, J, mm_rf rv sp rr w nw) (fun v h => v = some (.int out.1) ∧ h = (107, out.2, J, mm_rf rv sp rr w nw)) := by
  unfold fX12_stowing at e
  refine mm_T.seg (f' := (6, [some (.ref 62), none, none, none, none, none], [(.ref 62)])) (h' := (107, (mm_up I 62 61 0), J, mm_rf rv sp rr w nw)) 4 rfl ?_
  obtain ⟨o876, eo876, e⟩ := mm_bind e
  refine mm_T.call (t := 291) (as := [(.ref 62)]) (f' := (9, [some (.ref 62), none, none, none, none, none], [])) rfl (tX12_nearLoads (d + 0) n (mm_up I 62 61 0) J rv sp rr w nw o876 eo876) (fun v h hq => ?_)
  obtain ⟨rfl, rfl⟩ := hq
  refine mm_T.seg (f' := (16, [some (.ref 62), some (.int o876.1), some (.int 1000000), some (.int 0), none, none], [])) (h' := (107, o876.2, J, mm_rf rv sp rr w nw)) 5 rfl ?_
  refine mm_T.mask [true, true, true, true, false, false] ?_
  obtain ⟨o890, eo890, e⟩ := mm_bind e
  refine tlX12_stowing_L16 d _ n o876.1 1000000 0 o876.2 J rv sp rr w nw o890 eo890 ?_
  refine mm_T.seg (f' := (126, [none, none, some (.int o890.1), none, none, none], [(.int 1000000), (.int o890.1)])) (h' := (107, o890.2, J, mm_rf rv sp rr w nw)) 2 rfl ?_
  refine mm_T.br (c := o890.1 = 1000000) (a := ((129, [none, none, some (.int o890.1), none, none, none], []), (107, o890.2, J, mm_rf rv sp rr w nw))) (b := ((133, [none, none, some (.int o890.1), none, none, none], []), (107, o890.2, J, mm_rf rv sp rr w nw))) rfl (fun h891 => ?_) (fun h891 => ?_)
  · rw [if_pos h891] at e
    refine mm_T.seg (f' := (134, [none, none, some (.int o890.1), none, none, none], [(.int (-1))])) (h' := (107, o890.2, J, mm_rf rv sp rr w nw)) 2 rfl ?_
    cases e
    exact mm_T.ret rfl ⟨rfl, rfl⟩
  · rw [if_neg h891] at e
    refine mm_T.seg (f' := (134, [none, none, some (.int o890.1), none, none, none], [(.int o890.1)])) (h' := (107, o890.2, J, mm_rf rv sp rr w nw)) 1 rfl ?_
    cases e
    exact mm_T.ret rfl ⟨rfl, rfl⟩
set_option maxRecDepth 100000 in
set_option maxHeartbeats 4000000 in
theorem tlX12_areBeside_L4 (d : Nat) (Q : Option Value → mm_H → Prop) : ∀ (n : Nat) (y1 : Int32) (y2 : Int32) (I : Nat → Nat → Int32) (J : Nat → Nat → Int64) (rv sp rr w nw : Nat), ∀ (out : Int32), fX12_areBeside_L4 n y1 y2 I = some out → mm_T none (d + 1) 298 (51, [none, some (.int out), none], []) (107, I, J, mm_rf rv sp rr w nw) Q → mm_T none (d + 1) 298 (4, [some (.ref 62), some (.int y1), some (.int y2)], []) (107, I, J, mm_rf rv sp rr w nw) Q := by
  intro n
  induction n with
  | zero =>
    intro y1 y2 I J rv sp rr w nw out e k
    rw [fX12_areBeside_L4] at e; cases e
  | succ n ih =>
    intro y1 y2 I J rv sp rr w nw out e k
    rw [fX12_areBeside_L4] at e
    refine mm_T.seg (f' := (7, [some (.ref 62), some (.int y1), some (.int y2)], [(.int 64), (.int y2)])) (h' := (107, I, J, mm_rf rv sp rr w nw)) 2 rfl ?_
    refine mm_T.br (c := y2 < 64) (a := ((10, [some (.ref 62), some (.int y1), some (.int y2)], []), (107, I, J, mm_rf rv sp rr w nw))) (b := ((51, [some (.ref 62), some (.int y1), some (.int y2)], []), (107, I, J, mm_rf rv sp rr w nw))) rfl (fun h897 => ?_) (fun h897 => ?_)
    · rw [if_pos h897] at e
      refine mm_T.seg (f' := (11, [some (.ref 62), some (.int y1), some (.int y2)], [(.int y1)])) (h' := (107, I, J, mm_rf rv sp rr w nw)) 1 rfl ?_
      refine mm_T.br (c := y1 = 0) (a := ((14, [some (.ref 62), some (.int y1), some (.int y2)], []), (107, I, J, mm_rf rv sp rr w nw))) (b := ((39, [some (.ref 62), some (.int y1), some (.int y2)], []), (107, I, J, mm_rf rv sp rr w nw))) rfl (fun h898 => ?_) (fun h898 => ?_)
      · rw [if_pos h898] at e
        refine mm_T.seg (f' := (19, [some (.ref 62), some (.int y1), some (.int y2)], [(.int y2), (.ref 92)])) (h' := (107, I, J, mm_rf rv sp rr w nw)) 3 rfl ?_
        by_cases h899 : y2 < 0 ∨ 64 ≤ y2.toNatClampNeg
        · rw [if_pos h899] at e; cases e
        rw [if_neg h899] at e
        refine mm_T.guard (y := ((20, [some (.ref 62), some (.int y1), some (.int y2)], [(.int (I 92 y2.toNatClampNeg))]), (107, I, J, mm_rf rv sp rr w nw))) rfl h899 ?_
        refine mm_T.br (c := (I 92 y2.toNatClampNeg) = 0) (a := ((43, [some (.ref 62), some (.int y1), some (.int y2)], []), (107, I, J, mm_rf rv sp rr w nw))) (b := ((23, [some (.ref 62), some (.int y1), some (.int y2)], []), (107, I, J, mm_rf rv sp rr w nw))) rfl (fun h900 => ?_) (fun h900 => ?_)
        · rw [if_pos h900] at e
          refine mm_T.seg (f' := (4, [some (.ref 62), some (.int 0), some (.int (y2 + 1))], [])) (h' := (107, I, J, mm_rf rv sp rr w nw)) 4 rfl ?_
          refine mm_T.mask [true, true, true] ?_
          exact ih 0 (y2 + 1) I J rv sp rr w nw out e k
        · rw [if_neg h900] at e
          refine mm_T.seg (f' := (32, [some (.ref 62), some (.int y1), some (.int y2)], [(.int ((y2 / 8) - (y2 - y2 / 8 * 8)))])) (h' := (107, I, J, mm_rf rv sp rr w nw)) 7 rfl ?_
          refine mm_T.call (t := 239) (as := [(.int ((y2 / 8) - (y2 - y2 / 8 * 8)))]) (f' := (35, [some (.ref 62), some (.int y1), some (.int y2)], [])) rfl (tX12_plain (d + 0) ((y2 / 8) - (y2 - y2 / 8 * 8)) I J rv sp rr w nw _ rfl) (fun v h hq => ?_)
          obtain ⟨rfl, rfl⟩ := hq
          refine mm_T.seg (f' := (36, [some (.ref 62), some (.int y1), some (.int y2)], [(.int 1), (.int (fX12_plain ((y2 / 8) - (y2 - y2 / 8 * 8))))])) (h' := (107, I, J, mm_rf rv sp rr w nw)) 1 rfl ?_
          refine mm_T.br (c := (fX12_plain ((y2 / 8) - (y2 - y2 / 8 * 8))) = 1) (a := ((39, [some (.ref 62), some (.int y1), some (.int y2)], []), (107, I, J, mm_rf rv sp rr w nw))) (b := ((43, [some (.ref 62), some (.int y1), some (.int y2)], []), (107, I, J, mm_rf rv sp rr w nw))) rfl (fun h901 => ?_) (fun h901 => ?_)
          · rw [if_pos h901] at e
            refine mm_T.seg (f' := (4, [some (.ref 62), some (.int 1), some (.int (y2 + 1))], [])) (h' := (107, I, J, mm_rf rv sp rr w nw)) 5 rfl ?_
            refine mm_T.mask [true, true, true] ?_
            exact ih 1 (y2 + 1) I J rv sp rr w nw out e k
          · rw [if_neg h901] at e
            refine mm_T.seg (f' := (4, [some (.ref 62), some (.int 0), some (.int (y2 + 1))], [])) (h' := (107, I, J, mm_rf rv sp rr w nw)) 4 rfl ?_
            refine mm_T.mask [true, true, true] ?_
            exact ih 0 (y2 + 1) I J rv sp rr w nw out e k
      · rw [if_neg h898] at e
        refine mm_T.seg (f' := (4, [some (.ref 62), some (.int 1), some (.int (y2 + 1))], [])) (h' := (107, I, J, mm_rf rv sp rr w nw)) 5 rfl ?_
        refine mm_T.mask [true, true, true] ?_
        exact ih 1 (y2 + 1) I J rv sp rr w nw out e k
    · rw [if_neg h897] at e
      cases e
      refine mm_T.mask [false, true, false] ?_
      exact k
set_option maxRecDepth 100000 in
set_option maxHeartbeats 4000000 in
theorem tX12_areBeside (d n : Nat) (I : Nat → Nat → Int32) (J : Nat → Nat → Int64) (rv sp rr w nw : Nat) (out : Int32) (e : fX12_areBeside n I = some out) : mm_T none (d + 1) 298 (mm_ent 298 [(.ref 62)]) (107, I, J, mm_rf rv sp rr w nw) (fun v h => v = some (.int out) ∧ h = (107, I, J, mm_rf rv sp rr w nw)) := by
  unfold fX12_areBeside at e
  refine mm_T.seg (f' := (4, [some (.ref 62), some (.int 0), some (.int 0)], [])) (h' := (107, I, J, mm_rf rv sp rr w nw)) 4 rfl ?_
  refine mm_T.mask [true, true, true] ?_
  obtain ⟨o902, eo902, e⟩ := mm_bind e
  refine tlX12_areBeside_L4 d _ n 0 0 I J rv sp rr w nw o902 eo902 ?_
  refine mm_T.seg (f' := (52, [none, some (.int o902), none], [(.int o902)])) (h' := (107, I, J, mm_rf rv sp rr w nw)) 1 rfl ?_
  by_cases h903 : o902 = 0 ∨ o902 = 1
  case neg => rw [if_neg h903] at e; cases e
  rw [if_pos h903] at e
  cases e
  first | exact mm_T.retZ (v := some (.int o902)) rfl h903 ⟨rfl, rfl⟩ | exact mm_T.retZ (v := some (.int out)) rfl h903 ⟨rfl, rfl⟩
set_option maxRecDepth 100000 in
set_option maxHeartbeats 4000000 in
theorem tlX12_goBoth_L2 (d : Nat) (Q : Option Value → mm_H → Prop) : ∀ (n : Nat) (y1 : Int32) (y2 : Int32) (I : Nat → Nat → Int32) (J : Nat → Nat → Int64) (rv sp rr w nw : Nat), ∀ (out : (Nat → Nat → Int32)), fX12_goBoth_L2 n y1 y2 I = some out → mm_T none (d + 2) 299 (21, [some (.ref 62), some (.int y1), none, none, none, none], []) (107, out, J, mm_rf rv sp rr w nw) Q → mm_T none (d + 2) 299 (2, [some (.ref 62), some (.int y1), some (.int y2), none, none, none], []) (107, I, J, mm_rf rv sp rr w nw) Q := by
  intro n
  induction n with
  | zero =>
    intro y1 y2 I J rv sp rr w nw out e k
    rw [fX12_goBoth_L2] at e; cases e
  | succ n ih =>
    intro y1 y2 I J rv sp rr w nw out e k
    rw [fX12_goBoth_L2] at e
    refine mm_T.seg (f' := (5, [some (.ref 62), some (.int y1), some (.int y2), none, none, none], [(.int 64), (.int y2)])) (h' := (107, I, J, mm_rf rv sp rr w nw)) 2 rfl ?_
    refine mm_T.br (c := y2 < 64) (a := ((8, [some (.ref 62), some (.int y1), some (.int y2), none, none, none], []), (107, I, J, mm_rf rv sp rr w nw))) (b := ((21, [some (.ref 62), some (.int y1), some (.int y2), none, none, none], []), (107, I, J, mm_rf rv sp rr w nw))) rfl (fun h904 => ?_) (fun h904 => ?_)
    · rw [if_pos h904] at e
      refine mm_T.seg (f' := (14, [some (.ref 62), some (.int y1), some (.int y2), none, none, none], [(.int 0), (.int y2), (.ref 93)])) (h' := (107, I, J, mm_rf rv sp rr w nw)) 4 rfl ?_
      by_cases h905 : y2 < 0 ∨ 64 ≤ y2.toNatClampNeg
      · rw [if_pos h905] at e; cases e
      rw [if_neg h905] at e
      refine mm_T.guard (y := ((15, [some (.ref 62), some (.int y1), some (.int y2), none, none, none], []), (107, (mm_up I 93 y2.toNatClampNeg (vp_nar .boolean 0)), J, mm_rf rv sp rr w nw))) rfl h905 ?_
      refine mm_T.seg (f' := (2, [some (.ref 62), some (.int y1), some (.int (y2 + 1)), none, none, none], [])) (h' := (107, (mm_up I 93 y2.toNatClampNeg (vp_nar .boolean 0)), J, mm_rf rv sp rr w nw)) 2 rfl ?_
      refine mm_T.mask [true, true, true, false, false, false] ?_
      exact ih y1 (y2 + 1) (mm_up I 93 y2.toNatClampNeg (vp_nar .boolean 0)) J rv sp rr w nw out e k
    · rw [if_neg h904] at e
      cases e
      refine mm_T.mask [true, true, false, false, false, false] ?_
      exact k
set_option maxRecDepth 100000 in
set_option maxHeartbeats 4000000 in
theorem tlX12_goBoth_L31 (d : Nat) (Q : Option Value → mm_H → Prop) : ∀ (n : Nat) (y1 : Int32) (y2 : Int32) (y3 : Int32) (I : Nat → Nat → Int32) (J : Nat → Nat → Int64) (rv sp rr w nw : Nat), ∀ (out : (Nat → Nat → Int32)), fX12_goBoth_L31 n y1 y2 y3 I = some out → mm_T none (d + 2) 299 (124, [some (.ref 62), some (.int y1), some (.int y2), none, none, none], []) (107, out, J, mm_rf rv sp rr w nw) Q → mm_T none (d + 2) 299 (31, [some (.ref 62), some (.int y1), some (.int y2), some (.int y3), none, none], []) (107, I, J, mm_rf rv sp rr w nw) Q := by
  intro n
  induction n with
  | zero =>
    intro y1 y2 y3 I J rv sp rr w nw out e k
    rw [fX12_goBoth_L31] at e; cases e
  | succ n ih =>
    intro y1 y2 y3 I J rv sp rr w nw out e k
    rw [fX12_goBoth_L31] at e
    refine mm_T.seg (f' := (34, [some (.ref 62), some (.int y1), some (.int y2), some (.int y3), none, none], [(.int 9), (.int y3)])) (h' := (107, I, J, mm_rf rv sp rr w nw)) 2 rfl ?_
    refine mm_T.br (c := y3 < 9) (a := ((37, [some (.ref 62), some (.int y1), some (.int y2), some (.int y3), none, none], []), (107, I, J, mm_rf rv sp rr w nw))) (b := ((124, [some (.ref 62), some (.int y1), some (.int y2), some (.int y3), none, none], []), (107, I, J, mm_rf rv sp rr w nw))) rfl (fun h908 => ?_) (fun h908 => ?_)
    · rw [if_pos h908] at e
      refine mm_T.seg (f' := (42, [some (.ref 62), some (.int y1), some (.int y2), some (.int y3), none, none], [(.int y2), (.ref 92)])) (h' := (107, I, J, mm_rf rv sp rr w nw)) 3 rfl ?_
      by_cases h909 : y2 < 0 ∨ 64 ≤ y2.toNatClampNeg
      · rw [if_pos h909] at e; cases e
      rw [if_neg h909] at e
      refine mm_T.guard (y := ((43, [some (.ref 62), some (.int y1), some (.int y2), some (.int y3), none, none], [(.int (I 92 y2.toNatClampNeg))]), (107, I, J, mm_rf rv sp rr w nw))) rfl h909 ?_
      refine mm_T.br (c := (I 92 y2.toNatClampNeg) = 0) (a := ((124, [some (.ref 62), some (.int y1), some (.int y2), some (.int y3), none, none], []), (107, I, J, mm_rf rv sp rr w nw))) (b := ((46, [some (.ref 62), some (.int y1), some (.int y2), some (.int y3), none, none], []), (107, I, J, mm_rf rv sp rr w nw))) rfl (fun h910 => ?_) (fun h910 => ?_)
      · rw [if_pos h910] at e
        cases e
        refine mm_T.mask [true, true, true, false, false, false] ?_
        exact k
      · rw [if_neg h910] at e
        refine mm_T.seg (f' := (58, [some (.ref 62), some (.int y1), some (.int y2), some (.int y3), none, none], [(.int 1), (.int ((y3 / 3) - 1)), (.int y1), (.int (y2 / 8)), (.ref 62)])) (h' := (107, I, J, mm_rf rv sp rr w nw)) 11 rfl ?_
        obtain ⟨o911, eo911, e⟩ := mm_bind e
        refine mm_T.call (t := 259) (as := [(.ref 62), (.int (y2 / 8)), (.int y1), (.int ((y3 / 3) - 1)), (.int 1)]) (f' := (61, [some (.ref 62), some (.int y1), some (.int y2), some (.int y3), none, none], [])) rfl (tX12_columnBy (d + 0) (y2 / 8) y1 ((y3 / 3) - 1) 1 I J rv sp rr w nw o911 eo911) (fun v h hq => ?_)
        obtain ⟨rfl, rfl⟩ := hq
        refine mm_T.seg (f' := (75, [some (.ref 62), some (.int y1), some (.int y2), some (.int y3), some (.int o911), none], [(.int 1), (.int ((y3 - y3 / 3 * 3) - 1)), (.int y1), (.int (y2 - y2 / 8 * 8)), (.ref 62)])) (h' := (107, I, J, mm_rf rv sp rr w nw)) 12 rfl ?_
        obtain ⟨o912, eo912, e⟩ := mm_bind e
        refine mm_T.call (t := 259) (as := [(.ref 62), (.int (y2 - y2 / 8 * 8)), (.int y1), (.int ((y3 - y3 / 3 * 3) - 1)), (.int 1)]) (f' := (78, [some (.ref 62), some (.int y1), some (.int y2), some (.int y3), some (.int o911), none], [])) rfl (tX12_columnBy (d + 0) (y2 - y2 / 8 * 8) y1 ((y3 - y3 / 3 * 3) - 1) 1 I J rv sp rr w nw o912 eo912) (fun v h hq => ?_)
        obtain ⟨rfl, rfl⟩ := hq
        refine mm_T.seg (f' := (86, [some (.ref 62), some (.int y1), some (.int y2), some (.int y3), some (.int o911), some (.int o912)], [(.int (y1 + 1)), (.int o911), (.ref 62)])) (h' := (107, I, J, mm_rf rv sp rr w nw)) 6 rfl ?_
        obtain ⟨o913, eo913, e⟩ := mm_bind e
        refine mm_T.call (t := 260) (as := [(.ref 62), (.int o911), (.int (y1 + 1))]) (f' := (89, [some (.ref 62), some (.int y1), some (.int y2), some (.int y3), some (.int o911), some (.int o912)], [])) rfl (tX12_isIron (d + 1) o911 (y1 + 1) I J rv sp rr w nw o913 eo913) (fun v h hq => ?_)
        obtain ⟨rfl, rfl⟩ := hq
        refine mm_T.br (c := o913 = 0) (a := ((92, [some (.ref 62), some (.int y1), some (.int y2), some (.int y3), some (.int o911), some (.int o912)], []), (107, I, J, mm_rf rv sp rr w nw))) (b := ((118, [some (.ref 62), some (.int y1), some (.int y2), some (.int y3), some (.int o911), some (.int o912)], []), (107, I, J, mm_rf rv sp rr w nw))) rfl (fun h914 => ?_) (fun h914 => ?_)
        · rw [if_pos h914] at e
          refine mm_T.seg (f' := (98, [some (.ref 62), some (.int y1), some (.int y2), some (.int y3), some (.int o911), some (.int o912)], [(.int (y1 + 1)), (.int o912), (.ref 62)])) (h' := (107, I, J, mm_rf rv sp rr w nw)) 5 rfl ?_
          obtain ⟨o915, eo915, e⟩ := mm_bind e
          refine mm_T.call (t := 260) (as := [(.ref 62), (.int o912), (.int (y1 + 1))]) (f' := (101, [some (.ref 62), some (.int y1), some (.int y2), some (.int y3), some (.int o911), some (.int o912)], [])) rfl (tX12_isIron (d + 1) o912 (y1 + 1) I J rv sp rr w nw o915 eo915) (fun v h hq => ?_)
          obtain ⟨rfl, rfl⟩ := hq
          refine mm_T.br (c := o915 = 0) (a := ((104, [some (.ref 62), some (.int y1), some (.int y2), some (.int y3), some (.int o911), some (.int o912)], []), (107, I, J, mm_rf rv sp rr w nw))) (b := ((118, [some (.ref 62), some (.int y1), some (.int y2), some (.int y3), some (.int o911), some (.int o912)], []), (107, I, J, mm_rf rv sp rr w nw))) rfl (fun h916 => ?_) (fun h916 => ?_)
          · rw [if_pos h916] at e
            refine mm_T.seg (f' := (117, [some (.ref 62), some (.int y1), some (.int y2), some (.int y3), some (.int o911), some (.int o912)], [(.int 1), (.int ((8 * o911) + o912)), (.ref 93)])) (h' := (107, I, J, mm_rf rv sp rr w nw)) 8 rfl ?_
            by_cases h917 : ((8 * o911) + o912) < 0 ∨ 64 ≤ ((8 * o911) + o912).toNatClampNeg
            · rw [if_pos h917] at e; cases e
            rw [if_neg h917] at e
            refine mm_T.guard (c := ((8 * o911) + o912) < 0 ∨ 64 ≤ ((8 * o911) + o912).toNatClampNeg) (y := ((118, [some (.ref 62), some (.int y1), some (.int y2), some (.int y3), some (.int o911), some (.int o912)], []), (107, (mm_up I 93 ((8 * o911) + o912).toNatClampNeg (vp_nar .boolean 1)), J, mm_rf rv sp rr w nw))) (mm_gen (P := fun z => mm_stp none 299 (117, [some (.ref 62), some (.int y1), some (.int y2), some (.int y3), some (.int o911), some (.int o912)], [(.int 1), (.int z), (.ref 93)]) (107, I, J, mm_rf rv sp rr w nw) = if z < 0 ∨ 64 ≤ z.toNatClampNeg then none else some (.inl ((118, [some (.ref 62), some (.int y1), some (.int y2), some (.int y3), some (.int o911), some (.int o912)], []), (107, (mm_up I 93 z.toNatClampNeg (vp_nar .boolean 1)), J, mm_rf rv sp rr w nw)))) ((8 * o911) + o912) (fun z => rfl)) h917 ?_
            refine mm_T.seg (f' := (31, [some (.ref 62), some (.int y1), some (.int y2), some (.int (y3 + 1)), some (.int o911), some (.int o912)], [])) (h' := (107, (mm_up I 93 ((8 * o911) + o912).toNatClampNeg (vp_nar .boolean 1)), J, mm_rf rv sp rr w nw)) 2 rfl ?_
            refine mm_T.mask [true, true, true, true, false, false] ?_
            exact ih y1 y2 (y3 + 1) (mm_up I 93 ((8 * o911) + o912).toNatClampNeg (vp_nar .boolean 1)) J rv sp rr w nw out e k
          · rw [if_neg h916] at e
            refine mm_T.seg (f' := (31, [some (.ref 62), some (.int y1), some (.int y2), some (.int (y3 + 1)), some (.int o911), some (.int o912)], [])) (h' := (107, I, J, mm_rf rv sp rr w nw)) 2 rfl ?_
            refine mm_T.mask [true, true, true, true, false, false] ?_
            exact ih y1 y2 (y3 + 1) I J rv sp rr w nw out e k
        · rw [if_neg h914] at e
          refine mm_T.seg (f' := (31, [some (.ref 62), some (.int y1), some (.int y2), some (.int (y3 + 1)), some (.int o911), some (.int o912)], [])) (h' := (107, I, J, mm_rf rv sp rr w nw)) 2 rfl ?_
          refine mm_T.mask [true, true, true, true, false, false] ?_
          exact ih y1 y2 (y3 + 1) I J rv sp rr w nw out e k
    · rw [if_neg h908] at e
      cases e
      refine mm_T.mask [true, true, true, false, false, false] ?_
      exact k
set_option maxRecDepth 100000 in
set_option maxHeartbeats 4000000 in
theorem tlX12_goBoth_L23 (d : Nat) (Q : Option Value → mm_H → Prop) : ∀ (n : Nat) (y1 : Int32) (y2 : Int32) (I : Nat → Nat → Int32) (J : Nat → Nat → Int64) (rv sp rr w nw : Nat), ∀ (out : (Nat → Nat → Int32)), fX12_goBoth_L23 n y1 y2 I = some out → mm_T none (d + 2) 299 (130, [some (.ref 62), none, none, none, none, none], []) (107, out, J, mm_rf rv sp rr w nw) Q → mm_T none (d + 2) 299 (23, [some (.ref 62), some (.int y1), some (.int y2), none, none, none], []) (107, I, J, mm_rf rv sp rr w nw) Q := by
  intro n
  induction n with
  | zero =>
    intro y1 y2 I J rv sp rr w nw out e k
    rw [fX12_goBoth_L23] at e; cases e
  | succ n ih =>
    intro y1 y2 I J rv sp rr w nw out e k
    rw [fX12_goBoth_L23] at e
    refine mm_T.seg (f' := (26, [some (.ref 62), some (.int y1), some (.int y2), none, none, none], [(.int 64), (.int y2)])) (h' := (107, I, J, mm_rf rv sp rr w nw)) 2 rfl ?_
    refine mm_T.br (c := y2 < 64) (a := ((29, [some (.ref 62), some (.int y1), some (.int y2), none, none, none], []), (107, I, J, mm_rf rv sp rr w nw))) (b := ((130, [some (.ref 62), some (.int y1), some (.int y2), none, none, none], []), (107, I, J, mm_rf rv sp rr w nw))) rfl (fun h907 => ?_) (fun h907 => ?_)
    · rw [if_pos h907] at e
      refine mm_T.seg (f' := (31, [some (.ref 62), some (.int y1), some (.int y2), some (.int 0), none, none], [])) (h' := (107, I, J, mm_rf rv sp rr w nw)) 2 rfl ?_
      refine mm_T.mask [true, true, true, true, false, false] ?_
      obtain ⟨o918, eo918, e⟩ := mm_bind e
      refine tlX12_goBoth_L31 d _ n y1 y2 0 I J rv sp rr w nw o918 eo918 ?_
      refine mm_T.seg (f' := (23, [some (.ref 62), some (.int y1), some (.int (y2 + 1)), none, none, none], [])) (h' := (107, o918, J, mm_rf rv sp rr w nw)) 2 rfl ?_
      refine mm_T.mask [true, true, true, false, false, false] ?_
      exact ih y1 (y2 + 1) o918 J rv sp rr w nw out e k
    · rw [if_neg h907] at e
      cases e
      refine mm_T.mask [true, false, false, false, false, false] ?_
      exact k
set_option maxRecDepth 100000 in
set_option maxHeartbeats 4000000 in
theorem tlX12_goBoth_L132 (d : Nat) (Q : Option Value → mm_H → Prop) : ∀ (n : Nat) (y2 : Int32) (I : Nat → Nat → Int32) (J : Nat → Nat → Int64) (rv sp rr w nw : Nat), ∀ (out : (Nat → Nat → Int32)), fX12_goBoth_L132 n y2 I = some out → mm_T none (d + 2) 299 (156, [none, none, none, none, none, none], []) (107, out, J, mm_rf rv sp rr w nw) Q → mm_T none (d + 2) 299 (132, [some (.ref 62), none, some (.int y2), none, none, none], []) (107, I, J, mm_rf rv sp rr w nw) Q := by
  intro n
  induction n with
  | zero =>
    intro y2 I J rv sp rr w nw out e k
    rw [fX12_goBoth_L132] at e; cases e
  | succ n ih =>
    intro y2 I J rv sp rr w nw out e k
    rw [fX12_goBoth_L132] at e
    refine mm_T.seg (f' := (135, [some (.ref 62), none, some (.int y2), none, none, none], [(.int 64), (.int y2)])) (h' := (107, I, J, mm_rf rv sp rr w nw)) 2 rfl ?_
    refine mm_T.br (c := y2 < 64) (a := ((138, [some (.ref 62), none, some (.int y2), none, none, none], []), (107, I, J, mm_rf rv sp rr w nw))) (b := ((156, [some (.ref 62), none, some (.int y2), none, none, none], []), (107, I, J, mm_rf rv sp rr w nw))) rfl (fun h920 => ?_) (fun h920 => ?_)
    · rw [if_pos h920] at e
      refine mm_T.seg (f' := (148, [some (.ref 62), none, some (.int y2), none, none, none], [(.int y2), (.ref 93), (.int y2), (.ref 92)])) (h' := (107, I, J, mm_rf rv sp rr w nw)) 6 rfl ?_
      by_cases h921 : y2 < 0 ∨ 64 ≤ y2.toNatClampNeg
      · rw [if_pos h921] at e; cases e
      rw [if_neg h921] at e
      refine mm_T.guard (y := ((149, [some (.ref 62), none, some (.int y2), none, none, none], [(.int (I 93 y2.toNatClampNeg)), (.int y2), (.ref 92)]), (107, I, J, mm_rf rv sp rr w nw))) rfl h921 ?_
      by_cases h922 : y2 < 0 ∨ 64 ≤ y2.toNatClampNeg
      · rw [if_pos h922] at e; cases e
      rw [if_neg h922] at e
      refine mm_T.guard (y := ((150, [some (.ref 62), none, some (.int y2), none, none, none], []), (107, (mm_up I 92 y2.toNatClampNeg (vp_nar .boolean (I 93 y2.toNatClampNeg))), J, mm_rf rv sp rr w nw))) rfl h922 ?_
      refine mm_T.seg (f' := (132, [some (.ref 62), none, some (.int (y2 + 1)), none, none, none], [])) (h' := (107, (mm_up I 92 y2.toNatClampNeg (vp_nar .boolean (I 93 y2.toNatClampNeg))), J, mm_rf rv sp rr w nw)) 2 rfl ?_
      refine mm_T.mask [true, false, true, false, false, false] ?_
      exact ih (y2 + 1) (mm_up I 92 y2.toNatClampNeg (vp_nar .boolean (I 93 y2.toNatClampNeg))) J rv sp rr w nw out e k
    · rw [if_neg h920] at e
      cases e
      refine mm_T.mask [false, false, false, false, false, false] ?_
      exact k
set_option maxRecDepth 100000 in
set_option maxHeartbeats 4000000 in
theorem tX12_goBoth (d n : Nat) (x1 : Int32) (I : Nat → Nat → Int32) (J : Nat → Nat → Int64) (rv sp rr w nw : Nat) (out : (Nat → Nat → Int32)) (e : fX12_goBoth n x1 I = some out) : mm_T none (d + 2) 299 (mm_ent 299 [(.ref 62), (.int x1)]) (107, I, J, mm_rf rv sp rr w nw) (fun v h => v = none ∧ h = (107, out, J, mm_rf rv sp rr w nw)) := by
  unfold fX12_goBoth at e
  refine mm_T.seg (f' := (2, [some (.ref 62), some (.int x1), some (.int 0), none, none, none], [])) (h' := (107, I, J, mm_rf rv sp rr w nw)) 2 rfl ?_
  refine mm_T.mask [true, true, true, false, false, false] ?_
  obtain ⟨o906, eo906, e⟩ := mm_bind e
  refine tlX12_goBoth_L2 d _ n x1 0 I J rv sp rr w nw o906 eo906 ?_
  refine mm_T.seg (f' := (23, [some (.ref 62), some (.int x1), some (.int 0), none, none, none], [])) (h' := (107, o906, J, mm_rf rv sp rr w nw)) 2 rfl ?_
  refine mm_T.mask [true, true, true, false, false, false] ?_
  obtain ⟨o919, eo919, e⟩ := mm_bind e
  refine tlX12_goBoth_L23 d _ n x1 0 o906 J rv sp rr w nw o919 eo919 ?_
  refine mm_T.seg (f' := (132, [some (.ref 62), none, some (.int 0), none, none, none], [])) (h' := (107, o919, J, mm_rf rv sp rr w nw)) 2 rfl ?_
  refine mm_T.mask [true, false, true, false, false, false] ?_
  obtain ⟨o923, eo923, e⟩ := mm_bind e
  refine tlX12_goBoth_L132 d _ n 0 o919 J rv sp rr w nw o923 eo923 ?_
  cases e
  exact mm_T.ret rfl ⟨rfl, rfl⟩
set_option maxRecDepth 100000 in
set_option maxHeartbeats 4000000 in
theorem tlX12_meet_L44 (d : Nat) (Q : Option Value → mm_H → Prop) : ∀ (n : Nat) (y1 : Int32) (y2 : Int32) (y3 : Int32) (I : Nat → Nat → Int32) (J : Nat → Nat → Int64) (rv sp rr w nw : Nat), ∀ (out : (Nat → Nat → Int32)), fX12_meet_L44 n y1 y2 y3 I = some out → mm_T none (d + 3) 300 (87, [some (.ref 62), some (.int y1), none, none], []) (107, out, J, mm_rf rv sp rr w nw) Q → mm_T none (d + 3) 300 (44, [some (.ref 62), some (.int y1), some (.int y2), some (.int y3)], []) (107, I, J, mm_rf rv sp rr w nw) Q := by
  intro n
  induction n with
  | zero =>
    intro y1 y2 y3 I J rv sp rr w nw out e k
    rw [fX12_meet_L44] at e; cases e
  | succ n ih =>
    intro y1 y2 y3 I J rv sp rr w nw out e k
    rw [fX12_meet_L44] at e
    refine mm_T.seg (f' := (47, [some (.ref 62), some (.int y1), some (.int y2), some (.int y3)], [(.int 64), (.int y3)])) (h' := (107, I, J, mm_rf rv sp rr w nw)) 2 rfl ?_
    refine mm_T.br (c := y3 < 64) (a := ((50, [some (.ref 62), some (.int y1), some (.int y2), some (.int y3)], []), (107, I, J, mm_rf rv sp rr w nw))) (b := ((87, [some (.ref 62), some (.int y1), some (.int y2), some (.int y3)], []), (107, I, J, mm_rf rv sp rr w nw))) rfl (fun h932 => ?_) (fun h932 => ?_)
    · rw [if_pos h932] at e
      refine mm_T.seg (f' := (63, [some (.ref 62), some (.int y1), some (.int y2), some (.int y3)], [(.int y1), (.ref 84), (.int 8), (.int y3), (.int y3), (.ref 92)])) (h' := (107, I, J, mm_rf rv sp rr w nw)) 8 rfl ?_
      by_cases h933 : y1 < 0 ∨ 28 ≤ y1.toNatClampNeg
      · rw [if_pos h933] at e; cases e
      rw [if_neg h933] at e
      refine mm_T.guard (y := ((64, [some (.ref 62), some (.int y1), some (.int y2), some (.int y3)], [(.int (I 84 y1.toNatClampNeg)), (.int 8), (.int y3), (.int y3), (.ref 92)]), (107, I, J, mm_rf rv sp rr w nw))) rfl h933 ?_
      refine mm_T.seg (f' := (70, [some (.ref 62), some (.int y1), some (.int y2), some (.int y3)], [(.int y2), (.ref 84), (.int (8 * (I 84 y1.toNatClampNeg))), (.int y3), (.int y3), (.ref 92)])) (h' := (107, I, J, mm_rf rv sp rr w nw)) 4 rfl ?_
      by_cases h934 : y2 < 0 ∨ 28 ≤ y2.toNatClampNeg
      · rw [if_pos h934] at e; cases e
      rw [if_neg h934] at e
      refine mm_T.guard (y := ((71, [some (.ref 62), some (.int y1), some (.int y2), some (.int y3)], [(.int (I 84 y2.toNatClampNeg)), (.int (8 * (I 84 y1.toNatClampNeg))), (.int y3), (.int y3), (.ref 92)]), (107, I, J, mm_rf rv sp rr w nw))) rfl h934 ?_
      refine mm_T.seg (f' := (72, [some (.ref 62), some (.int y1), some (.int y2), some (.int y3)], [(.int ((8 * (I 84 y1.toNatClampNeg)) + (I 84 y2.toNatClampNeg))), (.int y3), (.int y3), (.ref 92)])) (h' := (107, I, J, mm_rf rv sp rr w nw)) 1 rfl ?_
      refine mm_T.br (c := y3 = ((8 * (I 84 y1.toNatClampNeg)) + (I 84 y2.toNatClampNeg))) (a := ((75, [some (.ref 62), some (.int y1), some (.int y2), some (.int y3)], [(.int y3), (.ref 92)]), (107, I, J, mm_rf rv sp rr w nw))) (b := ((79, [some (.ref 62), some (.int y1), some (.int y2), some (.int y3)], [(.int y3), (.ref 92)]), (107, I, J, mm_rf rv sp rr w nw))) rfl (fun h935 => ?_) (fun h935 => ?_)
      · rw [if_pos h935] at e
        refine mm_T.seg (f' := (80, [some (.ref 62), some (.int y1), some (.int y2), some (.int y3)], [(.int 1), (.int y3), (.ref 92)])) (h' := (107, I, J, mm_rf rv sp rr w nw)) 2 rfl ?_
        by_cases h936 : y3 < 0 ∨ 64 ≤ y3.toNatClampNeg
        · rw [if_pos h936] at e; cases e
        rw [if_neg h936] at e
        refine mm_T.guard (y := ((81, [some (.ref 62), some (.int y1), some (.int y2), some (.int y3)], []), (107, (mm_up I 92 y3.toNatClampNeg (vp_nar .boolean 1)), J, mm_rf rv sp rr w nw))) rfl h936 ?_
        refine mm_T.seg (f' := (44, [some (.ref 62), some (.int y1), some (.int y2), some (.int (y3 + 1))], [])) (h' := (107, (mm_up I 92 y3.toNatClampNeg (vp_nar .boolean 1)), J, mm_rf rv sp rr w nw)) 2 rfl ?_
        refine mm_T.mask [true, true, true, true] ?_
        exact ih y1 y2 (y3 + 1) (mm_up I 92 y3.toNatClampNeg (vp_nar .boolean 1)) J rv sp rr w nw out e k
      · rw [if_neg h935] at e
        refine mm_T.seg (f' := (80, [some (.ref 62), some (.int y1), some (.int y2), some (.int y3)], [(.int 0), (.int y3), (.ref 92)])) (h' := (107, I, J, mm_rf rv sp rr w nw)) 1 rfl ?_
        by_cases h937 : y3 < 0 ∨ 64 ≤ y3.toNatClampNeg
        · rw [if_pos h937] at e; cases e
        rw [if_neg h937] at e
        refine mm_T.guard (y := ((81, [some (.ref 62), some (.int y1), some (.int y2), some (.int y3)], []), (107, (mm_up I 92 y3.toNatClampNeg (vp_nar .boolean 0)), J, mm_rf rv sp rr w nw))) rfl h937 ?_
        refine mm_T.seg (f' := (44, [some (.ref 62), some (.int y1), some (.int y2), some (.int (y3 + 1))], [])) (h' := (107, (mm_up I 92 y3.toNatClampNeg (vp_nar .boolean 0)), J, mm_rf rv sp rr w nw)) 2 rfl ?_
        refine mm_T.mask [true, true, true, true] ?_
        exact ih y1 y2 (y3 + 1) (mm_up I 92 y3.toNatClampNeg (vp_nar .boolean 0)) J rv sp rr w nw out e k
    · rw [if_neg h932] at e
      cases e
      refine mm_T.mask [true, true, false, false] ?_
      exact k
set_option maxRecDepth 100000 in
set_option maxHeartbeats 4000000 in
theorem tlX12_meet_L89 (d : Nat) (Q : Option Value → mm_H → Prop) : ∀ (n : Nat) (y1 : Int32) (y3 : Int32) (I : Nat → Nat → Int32) (J : Nat → Nat → Int64) (rv sp rr w nw : Nat), ∀ (out : (Int32 ⊕ (Unit)) × (Nat → Nat → Int32)), fX12_meet_L89 n y1 y3 I = some out → (∀ (r : Int32) (s0 : Nat → Nat → Int32), out = (.inl r, s0) → Q (some (.int r)) (107, s0, J, mm_rf rv sp rr w nw)) → (∀ (y : Unit) (s0 : Nat → Nat → Int32), out = (.inr y, s0) → mm_T none (d + 3) 300 (136, [none, none, none, none], []) (107, s0, J, mm_rf rv sp rr w nw) Q) → mm_T none (d + 3) 300 (89, [some (.ref 62), some (.int y1), none, some (.int y3)], []) (107, I, J, mm_rf rv sp rr w nw) Q := by
  intro n
  induction n with
  | zero =>
    intro y1 y3 I J rv sp rr w nw out e kr ke
    rw [fX12_meet_L89] at e; cases e
  | succ n ih =>
    intro y1 y3 I J rv sp rr w nw out e kr ke
    rw [fX12_meet_L89] at e
    refine mm_T.seg (f' := (92, [some (.ref 62), some (.int y1), none, some (.int y3)], [(.int y1), (.ref 62), (.int y3)])) (h' := (107, I, J, mm_rf rv sp rr w nw)) 3 rfl ?_
    obtain ⟨o939, eo939, e⟩ := mm_bind e
    refine mm_T.call (t := 278) (as := [(.ref 62), (.int y1)]) (f' := (95, [some (.ref 62), some (.int y1), none, some (.int y3)], [(.int y3)])) rfl (tX12_leftOf (d + 2) y1 I J rv sp rr w nw o939 eo939) (fun v h hq => ?_)
    obtain ⟨rfl, rfl⟩ := hq
    refine mm_T.br (c := o939 < y3) (a := ((136, [some (.ref 62), some (.int y1), none, some (.int y3)], []), (107, I, J, mm_rf rv sp rr w nw))) (b := ((98, [some (.ref 62), some (.int y1), none, some (.int y3)], []), (107, I, J, mm_rf rv sp rr w nw))) rfl (fun h940 => ?_) (fun h940 => ?_)
    · rw [if_pos h940] at e
      cases e
      refine mm_T.mask [false, false, false, false] ?_
      exact ke _ _ rfl
    · rw [if_neg h940] at e
      refine mm_T.seg (f' := (99, [some (.ref 62), some (.int y1), none, some (.int y3)], [(.ref 62)])) (h' := (107, I, J, mm_rf rv sp rr w nw)) 1 rfl ?_
      obtain ⟨o941, eo941, e⟩ := mm_bind e
      refine mm_T.call (t := 298) (as := [(.ref 62)]) (f' := (102, [some (.ref 62), some (.int y1), none, some (.int y3)], [])) rfl (tX12_areBeside (d + 1) n I J rv sp rr w nw o941 eo941) (fun v h hq => ?_)
      obtain ⟨rfl, rfl⟩ := hq
      refine mm_T.br (c := o941 = 0) (a := ((107, [some (.ref 62), some (.int y1), none, some (.int y3)], []), (107, I, J, mm_rf rv sp rr w nw))) (b := ((105, [some (.ref 62), some (.int y1), none, some (.int y3)], []), (107, I, J, mm_rf rv sp rr w nw))) rfl (fun h942 => ?_) (fun h942 => ?_)
      · rw [if_pos h942] at e
        refine mm_T.seg (f' := (110, [some (.ref 62), some (.int y1), none, some (.int y3)], [(.int y1), (.ref 62), (.int y3)])) (h' := (107, I, J, mm_rf rv sp rr w nw)) 3 rfl ?_
        obtain ⟨o943, eo943, e⟩ := mm_bind e
        refine mm_T.call (t := 278) (as := [(.ref 62), (.int y1)]) (f' := (113, [some (.ref 62), some (.int y1), none, some (.int y3)], [(.int y3)])) rfl (tX12_leftOf (d + 2) y1 I J rv sp rr w nw o943 eo943) (fun v h hq => ?_)
        obtain ⟨rfl, rfl⟩ := hq
        refine mm_T.br (c := y3 < o943) (a := ((116, [some (.ref 62), some (.int y1), none, some (.int y3)], []), (107, I, J, mm_rf rv sp rr w nw))) (b := ((130, [some (.ref 62), some (.int y1), none, some (.int y3)], []), (107, I, J, mm_rf rv sp rr w nw))) rfl (fun h944 => ?_) (fun h944 => ?_)
        · rw [if_pos h944] at e
          refine mm_T.seg (f' := (124, [some (.ref 62), some (.int y1), none, some (.int y3)], [(.int (4 + y1)), (.ref 84), (.ref 62)])) (h' := (107, I, J, mm_rf rv sp rr w nw)) 6 rfl ?_
          by_cases h945 : (4 + y1) < 0 ∨ 28 ≤ (4 + y1).toNatClampNeg
          · rw [if_pos h945] at e; cases e
          rw [if_neg h945] at e
          refine mm_T.guard (c := (4 + y1) < 0 ∨ 28 ≤ (4 + y1).toNatClampNeg) (y := ((125, [some (.ref 62), some (.int y1), none, some (.int y3)], [(.int (I 84 (4 + y1).toNatClampNeg)), (.ref 62)]), (107, I, J, mm_rf rv sp rr w nw))) (mm_gen (P := fun z => mm_stp none 300 (124, [some (.ref 62), some (.int y1), none, some (.int y3)], [(.int z), (.ref 84), (.ref 62)]) (107, I, J, mm_rf rv sp rr w nw) = if z < 0 ∨ 28 ≤ z.toNatClampNeg then none else some (.inl ((125, [some (.ref 62), some (.int y1), none, some (.int y3)], [(.int (I 84 z.toNatClampNeg)), (.ref 62)]), (107, I, J, mm_rf rv sp rr w nw)))) (4 + y1) (fun z => rfl)) h945 ?_
          refine mm_T.seg (f' := (127, [some (.ref 62), some (.int y1), none, some (.int y3)], [(.int ((I 84 (4 + y1).toNatClampNeg) + y3)), (.ref 62)])) (h' := (107, I, J, mm_rf rv sp rr w nw)) 2 rfl ?_
          obtain ⟨o946, eo946, e⟩ := mm_bind e
          refine mm_T.call (t := 299) (as := [(.ref 62), (.int ((I 84 (4 + y1).toNatClampNeg) + y3))]) (f' := (130, [some (.ref 62), some (.int y1), none, some (.int y3)], [])) rfl (tX12_goBoth (d + 0) n ((I 84 (4 + y1).toNatClampNeg) + y3) I J rv sp rr w nw o946 eo946) (fun v h hq => ?_)
          obtain ⟨rfl, rfl⟩ := hq
          refine mm_T.seg (f' := (89, [some (.ref 62), some (.int y1), none, some (.int (y3 + 1))], [])) (h' := (107, o946, J, mm_rf rv sp rr w nw)) 2 rfl ?_
          refine mm_T.mask [true, true, false, true] ?_
          exact ih y1 (y3 + 1) o946 J rv sp rr w nw out e kr ke
        · rw [if_neg h944] at e
          refine mm_T.seg (f' := (89, [some (.ref 62), some (.int y1), none, some (.int (y3 + 1))], [])) (h' := (107, I, J, mm_rf rv sp rr w nw)) 2 rfl ?_
          refine mm_T.mask [true, true, false, true] ?_
          exact ih y1 (y3 + 1) I J rv sp rr w nw out e kr ke
      · rw [if_neg h942] at e
        refine mm_T.seg (f' := (106, [some (.ref 62), some (.int y1), none, some (.int y3)], [(.int y3)])) (h' := (107, I, J, mm_rf rv sp rr w nw)) 1 rfl ?_
        cases e
        exact mm_T.ret rfl (kr _ _ rfl)
set_option maxRecDepth 100000 in
set_option maxHeartbeats 4000000 in
theorem tX12_meet (d n : Nat) (x1 : Int32) (x2 : Int32) (I : Nat → Nat → Int32) (J : Nat → Nat → Int64) (rv sp rr w nw : Nat) (out : Int32 × (Nat → Nat → Int32)) (e : fX12_meet n x1 x2 I = some out) : mm_T none (d + 3) 300 (mm_ent 300 [(.ref 62), (.int x1), (.int x2)]) (107, I, J, mm_rf rv sp rr w nw) (fun v h => v = some (.int out.1) ∧ h = (107, out.2, J, mm_rf rv sp rr w nw)) := by
  unfold fX12_meet at e
  refine mm_T.seg (f' := (2, [some (.ref 62), some (.int x1), some (.int x2), none], [(.int x1), (.ref 62)])) (h' := (107, I, J, mm_rf rv sp rr w nw)) 2 rfl ?_
  obtain ⟨o924, eo924, e⟩ := mm_bind e
  refine mm_T.call (t := 253) (as := [(.ref 62), (.int x1)]) (f' := (5, [some (.ref 62), some (.int x1), some (.int x2), none], [])) rfl (tX12_isBoard (d + 1) x1 I J rv sp rr w nw o924 eo924) (fun v h hq => ?_)
  obtain ⟨rfl, rfl⟩ := hq
  refine mm_T.br (c := o924 = 0) (a := ((40, [some (.ref 62), some (.int x1), some (.int x2), none], []), (107, I, J, mm_rf rv sp rr w nw))) (b := ((8, [some (.ref 62), some (.int x1), some (.int x2), none], []), (107, I, J, mm_rf rv sp rr w nw))) rfl (fun h925 => ?_) (fun h925 => ?_)
  · rw [if_pos h925] at e
    refine mm_T.seg (f' := (41, [some (.ref 62), some (.int x1), some (.int x2), none], [(.int (-1))])) (h' := (107, I, J, mm_rf rv sp rr w nw)) 1 rfl ?_
    cases e
    exact mm_T.ret rfl ⟨rfl, rfl⟩
  · rw [if_neg h925] at e
    refine mm_T.seg (f' := (10, [some (.ref 62), some (.int x1), some (.int x2), none], [(.int x2), (.ref 62)])) (h' := (107, I, J, mm_rf rv sp rr w nw)) 2 rfl ?_
    obtain ⟨o926, eo926, e⟩ := mm_bind e
    refine mm_T.call (t := 253) (as := [(.ref 62), (.int x2)]) (f' := (13, [some (.ref 62), some (.int x1), some (.int x2), none], [])) rfl (tX12_isBoard (d + 1) x2 I J rv sp rr w nw o926 eo926) (fun v h hq => ?_)
    obtain ⟨rfl, rfl⟩ := hq
    refine mm_T.br (c := o926 = 0) (a := ((40, [some (.ref 62), some (.int x1), some (.int x2), none], []), (107, I, J, mm_rf rv sp rr w nw))) (b := ((16, [some (.ref 62), some (.int x1), some (.int x2), none], []), (107, I, J, mm_rf rv sp rr w nw))) rfl (fun h927 => ?_) (fun h927 => ?_)
    · rw [if_pos h927] at e
      refine mm_T.seg (f' := (41, [some (.ref 62), some (.int x1), some (.int x2), none], [(.int (-1))])) (h' := (107, I, J, mm_rf rv sp rr w nw)) 1 rfl ?_
      cases e
      exact mm_T.ret rfl ⟨rfl, rfl⟩
    · rw [if_neg h927] at e
      refine mm_T.seg (f' := (18, [some (.ref 62), some (.int x1), some (.int x2), none], [(.int x2), (.int x1)])) (h' := (107, I, J, mm_rf rv sp rr w nw)) 2 rfl ?_
      refine mm_T.br (c := x1 = x2) (a := ((40, [some (.ref 62), some (.int x1), some (.int x2), none], []), (107, I, J, mm_rf rv sp rr w nw))) (b := ((21, [some (.ref 62), some (.int x1), some (.int x2), none], []), (107, I, J, mm_rf rv sp rr w nw))) rfl (fun h928 => ?_) (fun h928 => ?_)
      · rw [if_pos h928] at e
        refine mm_T.seg (f' := (41, [some (.ref 62), some (.int x1), some (.int x2), none], [(.int (-1))])) (h' := (107, I, J, mm_rf rv sp rr w nw)) 1 rfl ?_
        cases e
        exact mm_T.ret rfl ⟨rfl, rfl⟩
      · rw [if_neg h928] at e
        refine mm_T.seg (f' := (28, [some (.ref 62), some (.int x1), some (.int x2), none], [(.int (4 + x1)), (.ref 84)])) (h' := (107, I, J, mm_rf rv sp rr w nw)) 5 rfl ?_
        by_cases h929 : (4 + x1) < 0 ∨ 28 ≤ (4 + x1).toNatClampNeg
        · rw [if_pos h929] at e; cases e
        rw [if_neg h929] at e
        refine mm_T.guard (c := (4 + x1) < 0 ∨ 28 ≤ (4 + x1).toNatClampNeg) (y := ((29, [some (.ref 62), some (.int x1), some (.int x2), none], [(.int (I 84 (4 + x1).toNatClampNeg))]), (107, I, J, mm_rf rv sp rr w nw))) (mm_gen (P := fun z => mm_stp none 300 (28, [some (.ref 62), some (.int x1), some (.int x2), none], [(.int z), (.ref 84)]) (107, I, J, mm_rf rv sp rr w nw) = if z < 0 ∨ 28 ≤ z.toNatClampNeg then none else some (.inl ((29, [some (.ref 62), some (.int x1), some (.int x2), none], [(.int (I 84 z.toNatClampNeg))]), (107, I, J, mm_rf rv sp rr w nw)))) (4 + x1) (fun z => rfl)) h929 ?_
        refine mm_T.seg (f' := (36, [some (.ref 62), some (.int x1), some (.int x2), none], [(.int (4 + x2)), (.ref 84), (.int (I 84 (4 + x1).toNatClampNeg))])) (h' := (107, I, J, mm_rf rv sp rr w nw)) 5 rfl ?_
        by_cases h930 : (4 + x2) < 0 ∨ 28 ≤ (4 + x2).toNatClampNeg
        · rw [if_pos h930] at e; cases e
        rw [if_neg h930] at e
        refine mm_T.guard (c := (4 + x2) < 0 ∨ 28 ≤ (4 + x2).toNatClampNeg) (y := ((37, [some (.ref 62), some (.int x1), some (.int x2), none], [(.int (I 84 (4 + x2).toNatClampNeg)), (.int (I 84 (4 + x1).toNatClampNeg))]), (107, I, J, mm_rf rv sp rr w nw))) (mm_gen (P := fun z => mm_stp none 300 (36, [some (.ref 62), some (.int x1), some (.int x2), none], [(.int z), (.ref 84), (.int (I 84 (4 + x1).toNatClampNeg))]) (107, I, J, mm_rf rv sp rr w nw) = if z < 0 ∨ 28 ≤ z.toNatClampNeg then none else some (.inl ((37, [some (.ref 62), some (.int x1), some (.int x2), none], [(.int (I 84 z.toNatClampNeg)), (.int (I 84 (4 + x1).toNatClampNeg))]), (107, I, J, mm_rf rv sp rr w nw)))) (4 + x2) (fun z => rfl)) h930 ?_
        refine mm_T.br (c := (I 84 (4 + x1).toNatClampNeg) = (I 84 (4 + x2).toNatClampNeg)) (a := ((42, [some (.ref 62), some (.int x1), some (.int x2), none], []), (107, I, J, mm_rf rv sp rr w nw))) (b := ((40, [some (.ref 62), some (.int x1), some (.int x2), none], []), (107, I, J, mm_rf rv sp rr w nw))) rfl (fun h931 => ?_) (fun h931 => ?_)
        · rw [if_pos h931] at e
          refine mm_T.seg (f' := (44, [some (.ref 62), some (.int x1), some (.int x2), some (.int 0)], [])) (h' := (107, I, J, mm_rf rv sp rr w nw)) 2 rfl ?_
          refine mm_T.mask [true, true, true, true] ?_
          obtain ⟨o938, eo938, e⟩ := mm_bind e
          refine tlX12_meet_L44 d _ n x1 x2 0 I J rv sp rr w nw o938 eo938 ?_
          refine mm_T.seg (f' := (89, [some (.ref 62), some (.int x1), none, some (.int 0)], [])) (h' := (107, o938, J, mm_rf rv sp rr w nw)) 2 rfl ?_
          refine mm_T.mask [true, true, false, true] ?_
          obtain ⟨o947, eo947, e⟩ := mm_bind e
          rcases o947 with ⟨va948 | vb948, vs948_0⟩
          · cases e
            refine tlX12_meet_L89 d _ n x1 0 o938 J rv sp rr w nw _ eo947 (fun z z0 hz => ?_) (fun z z0 hz => ?_)
            · cases hz; exact ⟨rfl, rfl⟩
            · cases hz
          · refine tlX12_meet_L89 d _ n x1 0 o938 J rv sp rr w nw (.inr vb948, vs948_0) eo947 (fun z z0 hz => ?_) (fun z z0 hz => ?_)
            · cases hz
            · cases hz
              refine mm_T.seg (f' := (137, [none, none, none, none], [(.int (-1))])) (h' := (107, vs948_0, J, mm_rf rv sp rr w nw)) 1 rfl ?_
              cases e
              exact mm_T.ret rfl ⟨rfl, rfl⟩
        · rw [if_neg h931] at e
          refine mm_T.seg (f' := (41, [some (.ref 62), some (.int x1), some (.int x2), none], [(.int (-1))])) (h' := (107, I, J, mm_rf rv sp rr w nw)) 1 rfl ?_
          cases e
          exact mm_T.ret rfl ⟨rfl, rfl⟩
