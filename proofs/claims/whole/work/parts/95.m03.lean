set_option maxRecDepth 100000 in
set_option maxHeartbeats 4000000 in
theorem tlX12_river_L82 (d : Nat) (Q : Option Value → mm_H → Prop) : ∀ (n : Nat) (y1 : Int32) (I : Nat → Nat → Int32) (J : Nat → Nat → Int64) (rv sp rr w nw : Nat), ∀ (out : (Nat → Nat → Int32)), fX12_river_L82 n y1 I = some out → mm_T none (d + 7) 250 (120, [some (.ref 62), none], []) (107, out, J, mm_rf rv sp rr w nw) Q → mm_T none (d + 7) 250 (82, [some (.ref 62), some (.int y1)], []) (107, I, J, mm_rf rv sp rr w nw) Q := by
  intro n
  induction n with
  | zero =>
    intro y1 I J rv sp rr w nw out e k
    rw [fX12_river_L82] at e; cases e
  | succ n ih =>
    intro y1 I J rv sp rr w nw out e k
    rw [fX12_river_L82] at e
    refine mm_T.seg (f' := (87, [some (.ref 62), some (.int y1)], [(.int (I 62 18)), (.int y1)])) (h' := (107, I, J, mm_rf rv sp rr w nw)) 3 rfl ?_
    refine mm_T.br (c := y1 < (I 62 18)) (a := ((90, [some (.ref 62), some (.int y1)], []), (107, I, J, mm_rf rv sp rr w nw))) (b := ((120, [some (.ref 62), some (.int y1)], []), (107, I, J, mm_rf rv sp rr w nw))) rfl (fun h461 => ?_) (fun h461 => ?_)
    · rw [if_pos h461] at e
      refine mm_T.seg (f' := (94, [some (.ref 62), some (.int y1)], [(.ref 67)])) (h' := (107, I, J, mm_rf rv sp rr w nw)) 2 rfl ?_
      refine mm_T.seg (f' := (99, [some (.ref 62), some (.int y1)], [(.ref 65), (.int y1), (.ref 67)])) (h' := (107, I, J, mm_rf rv sp rr w nw)) 3 rfl ?_
      refine mm_T.seg (f' := (100, [some (.ref 62), some (.int y1)], [(.int y1), (.ref 65), (.int y1), (.ref 67)])) (h' := (107, I, J, mm_rf rv sp rr w nw)) 1 rfl ?_
      by_cases h462 : y1 < 0 ∨ 320 ≤ y1.toNatClampNeg
      · rw [if_pos h462] at e; cases e
      rw [if_neg h462] at e
      refine mm_T.guard (y := ((101, [some (.ref 62), some (.int y1)], [(.int (I 65 y1.toNatClampNeg)), (.int y1), (.ref 67)]), (107, I, J, mm_rf rv sp rr w nw))) rfl h462 ?_
      by_cases h463 : y1 < 0 ∨ 320 ≤ y1.toNatClampNeg
      · rw [if_pos h463] at e; cases e
      rw [if_neg h463] at e
      refine mm_T.guard (y := ((102, [some (.ref 62), some (.int y1)], []), (107, (mm_up I 67 y1.toNatClampNeg (I 65 y1.toNatClampNeg)), J, mm_rf rv sp rr w nw))) rfl h463 ?_
      refine mm_T.seg (f' := (106, [some (.ref 62), some (.int y1)], [(.ref 68)])) (h' := (107, (mm_up I 67 y1.toNatClampNeg (I 65 y1.toNatClampNeg)), J, mm_rf rv sp rr w nw)) 2 rfl ?_
      refine mm_T.seg (f' := (111, [some (.ref 62), some (.int y1)], [(.ref 66), (.int y1), (.ref 68)])) (h' := (107, (mm_up I 67 y1.toNatClampNeg (I 65 y1.toNatClampNeg)), J, mm_rf rv sp rr w nw)) 3 rfl ?_
      refine mm_T.seg (f' := (112, [some (.ref 62), some (.int y1)], [(.int y1), (.ref 66), (.int y1), (.ref 68)])) (h' := (107, (mm_up I 67 y1.toNatClampNeg (I 65 y1.toNatClampNeg)), J, mm_rf rv sp rr w nw)) 1 rfl ?_
      by_cases h464 : y1 < 0 ∨ 320 ≤ y1.toNatClampNeg
      · rw [if_pos h464] at e; cases e
      rw [if_neg h464] at e
      refine mm_T.guard (y := ((113, [some (.ref 62), some (.int y1)], [(.int (I 66 y1.toNatClampNeg)), (.int y1), (.ref 68)]), (107, (mm_up I 67 y1.toNatClampNeg (I 65 y1.toNatClampNeg)), J, mm_rf rv sp rr w nw))) rfl h464 ?_
      by_cases h465 : y1 < 0 ∨ 320 ≤ y1.toNatClampNeg
      · rw [if_pos h465] at e; cases e
      rw [if_neg h465] at e
      refine mm_T.guard (y := ((114, [some (.ref 62), some (.int y1)], []), (107, (mm_up (mm_up I 67 y1.toNatClampNeg (I 65 y1.toNatClampNeg)) 68 y1.toNatClampNeg (I 66 y1.toNatClampNeg)), J, mm_rf rv sp rr w nw))) rfl h465 ?_
      refine mm_T.seg (f' := (82, [some (.ref 62), some (.int (y1 + 1))], [])) (h' := (107, (mm_up (mm_up I 67 y1.toNatClampNeg (I 65 y1.toNatClampNeg)) 68 y1.toNatClampNeg (I 66 y1.toNatClampNeg)), J, mm_rf rv sp rr w nw)) 2 rfl ?_
      refine mm_T.mask [true, true] ?_
      exact ih (y1 + 1) (mm_up (mm_up I 67 y1.toNatClampNeg (I 65 y1.toNatClampNeg)) 68 y1.toNatClampNeg (I 66 y1.toNatClampNeg)) J rv sp rr w nw out e k
    · rw [if_neg h461] at e
      cases e
      refine mm_T.mask [true, false] ?_
      exact k
set_option maxRecDepth 100000 in
set_option maxHeartbeats 4000000 in
theorem tlX12_river_L122 (d : Nat) (Q : Option Value → mm_H → Prop) : ∀ (n : Nat) (y1 : Int32) (I : Nat → Nat → Int32) (J : Nat → Nat → Int64) (rv sp rr w nw : Nat), ∀ (out : (Nat → Nat → Int32)), fX12_river_L122 n y1 I = some out → mm_T none (d + 7) 250 (179, [some (.ref 62), none], []) (107, out, J, mm_rf rv sp rr w nw) Q → mm_T none (d + 7) 250 (122, [some (.ref 62), some (.int y1)], []) (107, I, J, mm_rf rv sp rr w nw) Q := by
  intro n
  induction n with
  | zero =>
    intro y1 I J rv sp rr w nw out e k
    rw [fX12_river_L122] at e; cases e
  | succ n ih =>
    intro y1 I J rv sp rr w nw out e k
    rw [fX12_river_L122] at e
    refine mm_T.seg (f' := (125, [some (.ref 62), some (.int y1)], [(.int 56), (.int y1)])) (h' := (107, I, J, mm_rf rv sp rr w nw)) 2 rfl ?_
    refine mm_T.br (c := y1 < 56) (a := ((128, [some (.ref 62), some (.int y1)], []), (107, I, J, mm_rf rv sp rr w nw))) (b := ((179, [some (.ref 62), some (.int y1)], []), (107, I, J, mm_rf rv sp rr w nw))) rfl (fun h467 => ?_) (fun h467 => ?_)
    · rw [if_pos h467] at e
      refine mm_T.seg (f' := (132, [some (.ref 62), some (.int y1)], [(.ref 78)])) (h' := (107, I, J, mm_rf rv sp rr w nw)) 2 rfl ?_
      refine mm_T.seg (f' := (137, [some (.ref 62), some (.int y1)], [(.ref 72), (.int y1), (.ref 78)])) (h' := (107, I, J, mm_rf rv sp rr w nw)) 3 rfl ?_
      refine mm_T.seg (f' := (138, [some (.ref 62), some (.int y1)], [(.int y1), (.ref 72), (.int y1), (.ref 78)])) (h' := (107, I, J, mm_rf rv sp rr w nw)) 1 rfl ?_
      by_cases h468 : y1 < 0 ∨ 56 ≤ y1.toNatClampNeg
      · rw [if_pos h468] at e; cases e
      rw [if_neg h468] at e
      refine mm_T.guard (y := ((139, [some (.ref 62), some (.int y1)], [(.int (I 72 y1.toNatClampNeg)), (.int y1), (.ref 78)]), (107, I, J, mm_rf rv sp rr w nw))) rfl h468 ?_
      refine mm_T.br (c := (I 72 y1.toNatClampNeg) < 0) (a := ((142, [some (.ref 62), some (.int y1)], [(.int y1), (.ref 78)]), (107, I, J, mm_rf rv sp rr w nw))) (b := ((146, [some (.ref 62), some (.int y1)], [(.int y1), (.ref 78)]), (107, I, J, mm_rf rv sp rr w nw))) rfl (fun h469 => ?_) (fun h469 => ?_)
      · rw [if_pos h469] at e
        refine mm_T.seg (f' := (152, [some (.ref 62), some (.int y1)], [(.int 0), (.int y1), (.ref 78)])) (h' := (107, I, J, mm_rf rv sp rr w nw)) 2 rfl ?_
        by_cases h470 : y1 < 0 ∨ 56 ≤ y1.toNatClampNeg
        · rw [if_pos h470] at e; cases e
        rw [if_neg h470] at e
        refine mm_T.guard (y := ((153, [some (.ref 62), some (.int y1)], []), (107, (mm_up I 78 y1.toNatClampNeg 0), J, mm_rf rv sp rr w nw))) rfl h470 ?_
        refine mm_T.seg (f' := (157, [some (.ref 62), some (.int y1)], [(.ref 79)])) (h' := (107, (mm_up I 78 y1.toNatClampNeg 0), J, mm_rf rv sp rr w nw)) 2 rfl ?_
        refine mm_T.seg (f' := (162, [some (.ref 62), some (.int y1)], [(.ref 73), (.int y1), (.ref 79)])) (h' := (107, (mm_up I 78 y1.toNatClampNeg 0), J, mm_rf rv sp rr w nw)) 3 rfl ?_
        refine mm_T.seg (f' := (163, [some (.ref 62), some (.int y1)], [(.int y1), (.ref 73), (.int y1), (.ref 79)])) (h' := (107, (mm_up I 78 y1.toNatClampNeg 0), J, mm_rf rv sp rr w nw)) 1 rfl ?_
        by_cases h471 : y1 < 0 ∨ 56 ≤ y1.toNatClampNeg
        · rw [if_pos h471] at e; cases e
        rw [if_neg h471] at e
        refine mm_T.guard (y := ((164, [some (.ref 62), some (.int y1)], [(.int (I 73 y1.toNatClampNeg)), (.int y1), (.ref 79)]), (107, (mm_up I 78 y1.toNatClampNeg 0), J, mm_rf rv sp rr w nw))) rfl h471 ?_
        refine mm_T.br (c := (I 73 y1.toNatClampNeg) < 0) (a := ((167, [some (.ref 62), some (.int y1)], [(.int y1), (.ref 79)]), (107, (mm_up I 78 y1.toNatClampNeg 0), J, mm_rf rv sp rr w nw))) (b := ((171, [some (.ref 62), some (.int y1)], [(.int y1), (.ref 79)]), (107, (mm_up I 78 y1.toNatClampNeg 0), J, mm_rf rv sp rr w nw))) rfl (fun h472 => ?_) (fun h472 => ?_)
        · rw [if_pos h472] at e
          refine mm_T.seg (f' := (172, [some (.ref 62), some (.int y1)], [(.int 0), (.int y1), (.ref 79)])) (h' := (107, (mm_up I 78 y1.toNatClampNeg 0), J, mm_rf rv sp rr w nw)) 2 rfl ?_
          by_cases h473 : y1 < 0 ∨ 56 ≤ y1.toNatClampNeg
          · rw [if_pos h473] at e; cases e
          rw [if_neg h473] at e
          refine mm_T.guard (y := ((173, [some (.ref 62), some (.int y1)], []), (107, (mm_up (mm_up I 78 y1.toNatClampNeg 0) 79 y1.toNatClampNeg 0), J, mm_rf rv sp rr w nw))) rfl h473 ?_
          refine mm_T.seg (f' := (122, [some (.ref 62), some (.int (y1 + 1))], [])) (h' := (107, (mm_up (mm_up I 78 y1.toNatClampNeg 0) 79 y1.toNatClampNeg 0), J, mm_rf rv sp rr w nw)) 2 rfl ?_
          refine mm_T.mask [true, true] ?_
          exact ih (y1 + 1) (mm_up (mm_up I 78 y1.toNatClampNeg 0) 79 y1.toNatClampNeg 0) J rv sp rr w nw out e k
        · rw [if_neg h472] at e
          refine mm_T.seg (f' := (172, [some (.ref 62), some (.int y1)], [(.int 1), (.int y1), (.ref 79)])) (h' := (107, (mm_up I 78 y1.toNatClampNeg 0), J, mm_rf rv sp rr w nw)) 1 rfl ?_
          by_cases h474 : y1 < 0 ∨ 56 ≤ y1.toNatClampNeg
          · rw [if_pos h474] at e; cases e
          rw [if_neg h474] at e
          refine mm_T.guard (y := ((173, [some (.ref 62), some (.int y1)], []), (107, (mm_up (mm_up I 78 y1.toNatClampNeg 0) 79 y1.toNatClampNeg 1), J, mm_rf rv sp rr w nw))) rfl h474 ?_
          refine mm_T.seg (f' := (122, [some (.ref 62), some (.int (y1 + 1))], [])) (h' := (107, (mm_up (mm_up I 78 y1.toNatClampNeg 0) 79 y1.toNatClampNeg 1), J, mm_rf rv sp rr w nw)) 2 rfl ?_
          refine mm_T.mask [true, true] ?_
          exact ih (y1 + 1) (mm_up (mm_up I 78 y1.toNatClampNeg 0) 79 y1.toNatClampNeg 1) J rv sp rr w nw out e k
      · rw [if_neg h469] at e
        refine mm_T.seg (f' := (150, [some (.ref 62), some (.int y1)], [(.ref 72), (.int y1), (.ref 78)])) (h' := (107, I, J, mm_rf rv sp rr w nw)) 2 rfl ?_
        refine mm_T.seg (f' := (151, [some (.ref 62), some (.int y1)], [(.int y1), (.ref 72), (.int y1), (.ref 78)])) (h' := (107, I, J, mm_rf rv sp rr w nw)) 1 rfl ?_
        by_cases h475 : y1 < 0 ∨ 56 ≤ y1.toNatClampNeg
        · rw [if_pos h475] at e; cases e
        rw [if_neg h475] at e
        refine mm_T.guard (y := ((152, [some (.ref 62), some (.int y1)], [(.int (I 72 y1.toNatClampNeg)), (.int y1), (.ref 78)]), (107, I, J, mm_rf rv sp rr w nw))) rfl h475 ?_
        by_cases h476 : y1 < 0 ∨ 56 ≤ y1.toNatClampNeg
        · rw [if_pos h476] at e; cases e
        rw [if_neg h476] at e
        refine mm_T.guard (y := ((153, [some (.ref 62), some (.int y1)], []), (107, (mm_up I 78 y1.toNatClampNeg (I 72 y1.toNatClampNeg)), J, mm_rf rv sp rr w nw))) rfl h476 ?_
        refine mm_T.seg (f' := (157, [some (.ref 62), some (.int y1)], [(.ref 79)])) (h' := (107, (mm_up I 78 y1.toNatClampNeg (I 72 y1.toNatClampNeg)), J, mm_rf rv sp rr w nw)) 2 rfl ?_
        refine mm_T.seg (f' := (162, [some (.ref 62), some (.int y1)], [(.ref 73), (.int y1), (.ref 79)])) (h' := (107, (mm_up I 78 y1.toNatClampNeg (I 72 y1.toNatClampNeg)), J, mm_rf rv sp rr w nw)) 3 rfl ?_
        refine mm_T.seg (f' := (163, [some (.ref 62), some (.int y1)], [(.int y1), (.ref 73), (.int y1), (.ref 79)])) (h' := (107, (mm_up I 78 y1.toNatClampNeg (I 72 y1.toNatClampNeg)), J, mm_rf rv sp rr w nw)) 1 rfl ?_
        by_cases h477 : y1 < 0 ∨ 56 ≤ y1.toNatClampNeg
        · rw [if_pos h477] at e; cases e
        rw [if_neg h477] at e
        refine mm_T.guard (y := ((164, [some (.ref 62), some (.int y1)], [(.int (I 73 y1.toNatClampNeg)), (.int y1), (.ref 79)]), (107, (mm_up I 78 y1.toNatClampNeg (I 72 y1.toNatClampNeg)), J, mm_rf rv sp rr w nw))) rfl h477 ?_
        refine mm_T.br (c := (I 73 y1.toNatClampNeg) < 0) (a := ((167, [some (.ref 62), some (.int y1)], [(.int y1), (.ref 79)]), (107, (mm_up I 78 y1.toNatClampNeg (I 72 y1.toNatClampNeg)), J, mm_rf rv sp rr w nw))) (b := ((171, [some (.ref 62), some (.int y1)], [(.int y1), (.ref 79)]), (107, (mm_up I 78 y1.toNatClampNeg (I 72 y1.toNatClampNeg)), J, mm_rf rv sp rr w nw))) rfl (fun h478 => ?_) (fun h478 => ?_)
        · rw [if_pos h478] at e
          refine mm_T.seg (f' := (172, [some (.ref 62), some (.int y1)], [(.int 0), (.int y1), (.ref 79)])) (h' := (107, (mm_up I 78 y1.toNatClampNeg (I 72 y1.toNatClampNeg)), J, mm_rf rv sp rr w nw)) 2 rfl ?_
          by_cases h479 : y1 < 0 ∨ 56 ≤ y1.toNatClampNeg
          · rw [if_pos h479] at e; cases e
          rw [if_neg h479] at e
          refine mm_T.guard (y := ((173, [some (.ref 62), some (.int y1)], []), (107, (mm_up (mm_up I 78 y1.toNatClampNeg (I 72 y1.toNatClampNeg)) 79 y1.toNatClampNeg 0), J, mm_rf rv sp rr w nw))) rfl h479 ?_
          refine mm_T.seg (f' := (122, [some (.ref 62), some (.int (y1 + 1))], [])) (h' := (107, (mm_up (mm_up I 78 y1.toNatClampNeg (I 72 y1.toNatClampNeg)) 79 y1.toNatClampNeg 0), J, mm_rf rv sp rr w nw)) 2 rfl ?_
          refine mm_T.mask [true, true] ?_
          exact ih (y1 + 1) (mm_up (mm_up I 78 y1.toNatClampNeg (I 72 y1.toNatClampNeg)) 79 y1.toNatClampNeg 0) J rv sp rr w nw out e k
        · rw [if_neg h478] at e
          refine mm_T.seg (f' := (172, [some (.ref 62), some (.int y1)], [(.int 1), (.int y1), (.ref 79)])) (h' := (107, (mm_up I 78 y1.toNatClampNeg (I 72 y1.toNatClampNeg)), J, mm_rf rv sp rr w nw)) 1 rfl ?_
          by_cases h480 : y1 < 0 ∨ 56 ≤ y1.toNatClampNeg
          · rw [if_pos h480] at e; cases e
          rw [if_neg h480] at e
          refine mm_T.guard (y := ((173, [some (.ref 62), some (.int y1)], []), (107, (mm_up (mm_up I 78 y1.toNatClampNeg (I 72 y1.toNatClampNeg)) 79 y1.toNatClampNeg 1), J, mm_rf rv sp rr w nw))) rfl h480 ?_
          refine mm_T.seg (f' := (122, [some (.ref 62), some (.int (y1 + 1))], [])) (h' := (107, (mm_up (mm_up I 78 y1.toNatClampNeg (I 72 y1.toNatClampNeg)) 79 y1.toNatClampNeg 1), J, mm_rf rv sp rr w nw)) 2 rfl ?_
          refine mm_T.mask [true, true] ?_
          exact ih (y1 + 1) (mm_up (mm_up I 78 y1.toNatClampNeg (I 72 y1.toNatClampNeg)) 79 y1.toNatClampNeg 1) J rv sp rr w nw out e k
    · rw [if_neg h467] at e
      cases e
      refine mm_T.mask [true, false] ?_
      exact k
set_option maxRecDepth 100000 in
set_option maxHeartbeats 4000000 in
theorem tlX12_river_L181 (d : Nat) (Q : Option Value → mm_H → Prop) : ∀ (n : Nat) (y1 : Int32) (I : Nat → Nat → Int32) (J : Nat → Nat → Int64) (rv sp rr w nw : Nat), ∀ (out : (Nat → Nat → Int32)), fX12_river_L181 n y1 I = some out → mm_T none (d + 7) 250 (200, [some (.ref 62), none], []) (107, out, J, mm_rf rv sp rr w nw) Q → mm_T none (d + 7) 250 (181, [some (.ref 62), some (.int y1)], []) (107, I, J, mm_rf rv sp rr w nw) Q := by
  intro n
  induction n with
  | zero =>
    intro y1 I J rv sp rr w nw out e k
    rw [fX12_river_L181] at e; cases e
  | succ n ih =>
    intro y1 I J rv sp rr w nw out e k
    rw [fX12_river_L181] at e
    refine mm_T.seg (f' := (184, [some (.ref 62), some (.int y1)], [(.int 28), (.int y1)])) (h' := (107, I, J, mm_rf rv sp rr w nw)) 2 rfl ?_
    refine mm_T.br (c := y1 < 28) (a := ((187, [some (.ref 62), some (.int y1)], []), (107, I, J, mm_rf rv sp rr w nw))) (b := ((200, [some (.ref 62), some (.int y1)], []), (107, I, J, mm_rf rv sp rr w nw))) rfl (fun h482 => ?_) (fun h482 => ?_)
    · rw [if_pos h482] at e
      refine mm_T.seg (f' := (191, [some (.ref 62), some (.int y1)], [(.ref 84)])) (h' := (107, I, J, mm_rf rv sp rr w nw)) 2 rfl ?_
      refine mm_T.seg (f' := (193, [some (.ref 62), some (.int y1)], [(.int 0), (.int y1), (.ref 84)])) (h' := (107, I, J, mm_rf rv sp rr w nw)) 2 rfl ?_
      by_cases h483 : y1 < 0 ∨ 28 ≤ y1.toNatClampNeg
      · rw [if_pos h483] at e; cases e
      rw [if_neg h483] at e
      refine mm_T.guard (y := ((194, [some (.ref 62), some (.int y1)], []), (107, (mm_up I 84 y1.toNatClampNeg 0), J, mm_rf rv sp rr w nw))) rfl h483 ?_
      refine mm_T.seg (f' := (181, [some (.ref 62), some (.int (y1 + 1))], [])) (h' := (107, (mm_up I 84 y1.toNatClampNeg 0), J, mm_rf rv sp rr w nw)) 2 rfl ?_
      refine mm_T.mask [true, true] ?_
      exact ih (y1 + 1) (mm_up I 84 y1.toNatClampNeg 0) J rv sp rr w nw out e k
    · rw [if_neg h482] at e
      cases e
      refine mm_T.mask [true, false] ?_
      exact k
set_option maxRecDepth 100000 in
set_option maxHeartbeats 4000000 in
theorem tlX12_river_L202 (d : Nat) (Q : Option Value → mm_H → Prop) : ∀ (n : Nat) (y1 : Int32) (I : Nat → Nat → Int32) (J : Nat → Nat → Int64) (rv sp rr w nw : Nat), ∀ (out : (Nat → Nat → Int32)), fX12_river_L202 n y1 I = some out → mm_T none (d + 7) 250 (264, [some (.ref 62), none], []) (107, out, J, mm_rf rv sp rr w nw) Q → mm_T none (d + 7) 250 (202, [some (.ref 62), some (.int y1)], []) (107, I, J, mm_rf rv sp rr w nw) Q := by
  intro n
  induction n with
  | zero =>
    intro y1 I J rv sp rr w nw out e k
    rw [fX12_river_L202] at e; cases e
  | succ n ih =>
    intro y1 I J rv sp rr w nw out e k
    rw [fX12_river_L202] at e
    refine mm_T.seg (f' := (207, [some (.ref 62), some (.int y1)], [(.int (I 62 48)), (.int y1)])) (h' := (107, I, J, mm_rf rv sp rr w nw)) 3 rfl ?_
    refine mm_T.br (c := y1 < (I 62 48)) (a := ((210, [some (.ref 62), some (.int y1)], []), (107, I, J, mm_rf rv sp rr w nw))) (b := ((264, [some (.ref 62), some (.int y1)], []), (107, I, J, mm_rf rv sp rr w nw))) rfl (fun h485 => ?_) (fun h485 => ?_)
    · rw [if_pos h485] at e
      refine mm_T.seg (f' := (214, [some (.ref 62), some (.int y1)], [(.ref 80)])) (h' := (107, I, J, mm_rf rv sp rr w nw)) 2 rfl ?_
      refine mm_T.seg (f' := (219, [some (.ref 62), some (.int y1)], [(.ref 74), (.int y1), (.ref 80)])) (h' := (107, I, J, mm_rf rv sp rr w nw)) 3 rfl ?_
      refine mm_T.seg (f' := (220, [some (.ref 62), some (.int y1)], [(.int y1), (.ref 74), (.int y1), (.ref 80)])) (h' := (107, I, J, mm_rf rv sp rr w nw)) 1 rfl ?_
      by_cases h486 : y1 < 0 ∨ 4 ≤ y1.toNatClampNeg
      · rw [if_pos h486] at e; cases e
      rw [if_neg h486] at e
      refine mm_T.guard (y := ((221, [some (.ref 62), some (.int y1)], [(.int (I 74 y1.toNatClampNeg)), (.int y1), (.ref 80)]), (107, I, J, mm_rf rv sp rr w nw))) rfl h486 ?_
      by_cases h487 : y1 < 0 ∨ 4 ≤ y1.toNatClampNeg
      · rw [if_pos h487] at e; cases e
      rw [if_neg h487] at e
      refine mm_T.guard (y := ((222, [some (.ref 62), some (.int y1)], []), (107, (mm_up I 80 y1.toNatClampNeg (I 74 y1.toNatClampNeg)), J, mm_rf rv sp rr w nw))) rfl h487 ?_
      refine mm_T.seg (f' := (226, [some (.ref 62), some (.int y1)], [(.ref 81)])) (h' := (107, (mm_up I 80 y1.toNatClampNeg (I 74 y1.toNatClampNeg)), J, mm_rf rv sp rr w nw)) 2 rfl ?_
      refine mm_T.seg (f' := (231, [some (.ref 62), some (.int y1)], [(.ref 75), (.int y1), (.ref 81)])) (h' := (107, (mm_up I 80 y1.toNatClampNeg (I 74 y1.toNatClampNeg)), J, mm_rf rv sp rr w nw)) 3 rfl ?_
      refine mm_T.seg (f' := (232, [some (.ref 62), some (.int y1)], [(.int y1), (.ref 75), (.int y1), (.ref 81)])) (h' := (107, (mm_up I 80 y1.toNatClampNeg (I 74 y1.toNatClampNeg)), J, mm_rf rv sp rr w nw)) 1 rfl ?_
      by_cases h488 : y1 < 0 ∨ 4 ≤ y1.toNatClampNeg
      · rw [if_pos h488] at e; cases e
      rw [if_neg h488] at e
      refine mm_T.guard (y := ((233, [some (.ref 62), some (.int y1)], [(.int (I 75 y1.toNatClampNeg)), (.int y1), (.ref 81)]), (107, (mm_up I 80 y1.toNatClampNeg (I 74 y1.toNatClampNeg)), J, mm_rf rv sp rr w nw))) rfl h488 ?_
      by_cases h489 : y1 < 0 ∨ 4 ≤ y1.toNatClampNeg
      · rw [if_pos h489] at e; cases e
      rw [if_neg h489] at e
      refine mm_T.guard (y := ((234, [some (.ref 62), some (.int y1)], []), (107, (mm_up (mm_up I 80 y1.toNatClampNeg (I 74 y1.toNatClampNeg)) 81 y1.toNatClampNeg (I 75 y1.toNatClampNeg)), J, mm_rf rv sp rr w nw))) rfl h489 ?_
      refine mm_T.seg (f' := (238, [some (.ref 62), some (.int y1)], [(.ref 82)])) (h' := (107, (mm_up (mm_up I 80 y1.toNatClampNeg (I 74 y1.toNatClampNeg)) 81 y1.toNatClampNeg (I 75 y1.toNatClampNeg)), J, mm_rf rv sp rr w nw)) 2 rfl ?_
      refine mm_T.seg (f' := (243, [some (.ref 62), some (.int y1)], [(.ref 76), (.int y1), (.ref 82)])) (h' := (107, (mm_up (mm_up I 80 y1.toNatClampNeg (I 74 y1.toNatClampNeg)) 81 y1.toNatClampNeg (I 75 y1.toNatClampNeg)), J, mm_rf rv sp rr w nw)) 3 rfl ?_
      refine mm_T.seg (f' := (244, [some (.ref 62), some (.int y1)], [(.int y1), (.ref 76), (.int y1), (.ref 82)])) (h' := (107, (mm_up (mm_up I 80 y1.toNatClampNeg (I 74 y1.toNatClampNeg)) 81 y1.toNatClampNeg (I 75 y1.toNatClampNeg)), J, mm_rf rv sp rr w nw)) 1 rfl ?_
      by_cases h490 : y1 < 0 ∨ 4 ≤ y1.toNatClampNeg
      · rw [if_pos h490] at e; cases e
      rw [if_neg h490] at e
      refine mm_T.guard (y := ((245, [some (.ref 62), some (.int y1)], [(.int (I 76 y1.toNatClampNeg)), (.int y1), (.ref 82)]), (107, (mm_up (mm_up I 80 y1.toNatClampNeg (I 74 y1.toNatClampNeg)) 81 y1.toNatClampNeg (I 75 y1.toNatClampNeg)), J, mm_rf rv sp rr w nw))) rfl h490 ?_
      by_cases h491 : y1 < 0 ∨ 4 ≤ y1.toNatClampNeg
      · rw [if_pos h491] at e; cases e
      rw [if_neg h491] at e
      refine mm_T.guard (y := ((246, [some (.ref 62), some (.int y1)], []), (107, (mm_up (mm_up (mm_up I 80 y1.toNatClampNeg (I 74 y1.toNatClampNeg)) 81 y1.toNatClampNeg (I 75 y1.toNatClampNeg)) 82 y1.toNatClampNeg (I 76 y1.toNatClampNeg)), J, mm_rf rv sp rr w nw))) rfl h491 ?_
      refine mm_T.seg (f' := (250, [some (.ref 62), some (.int y1)], [(.ref 84)])) (h' := (107, (mm_up (mm_up (mm_up I 80 y1.toNatClampNeg (I 74 y1.toNatClampNeg)) 81 y1.toNatClampNeg (I 75 y1.toNatClampNeg)) 82 y1.toNatClampNeg (I 76 y1.toNatClampNeg)), J, mm_rf rv sp rr w nw)) 2 rfl ?_
      refine mm_T.seg (f' := (255, [some (.ref 62), some (.int y1)], [(.ref 81), (.int y1), (.ref 84)])) (h' := (107, (mm_up (mm_up (mm_up I 80 y1.toNatClampNeg (I 74 y1.toNatClampNeg)) 81 y1.toNatClampNeg (I 75 y1.toNatClampNeg)) 82 y1.toNatClampNeg (I 76 y1.toNatClampNeg)), J, mm_rf rv sp rr w nw)) 3 rfl ?_
      refine mm_T.seg (f' := (256, [some (.ref 62), some (.int y1)], [(.int y1), (.ref 81), (.int y1), (.ref 84)])) (h' := (107, (mm_up (mm_up (mm_up I 80 y1.toNatClampNeg (I 74 y1.toNatClampNeg)) 81 y1.toNatClampNeg (I 75 y1.toNatClampNeg)) 82 y1.toNatClampNeg (I 76 y1.toNatClampNeg)), J, mm_rf rv sp rr w nw)) 1 rfl ?_
      by_cases h492 : y1 < 0 ∨ 4 ≤ y1.toNatClampNeg
      · rw [if_pos h492] at e; cases e
      rw [if_neg h492] at e
      refine mm_T.guard (y := ((257, [some (.ref 62), some (.int y1)], [(.int ((mm_up (mm_up I 80 y1.toNatClampNeg (I 74 y1.toNatClampNeg)) 81 y1.toNatClampNeg (I 75 y1.toNatClampNeg)) 81 y1.toNatClampNeg)), (.int y1), (.ref 84)]), (107, (mm_up (mm_up (mm_up I 80 y1.toNatClampNeg (I 74 y1.toNatClampNeg)) 81 y1.toNatClampNeg (I 75 y1.toNatClampNeg)) 82 y1.toNatClampNeg (I 76 y1.toNatClampNeg)), J, mm_rf rv sp rr w nw))) rfl h492 ?_
      by_cases h493 : y1 < 0 ∨ 28 ≤ y1.toNatClampNeg
      · rw [if_pos h493] at e; cases e
      rw [if_neg h493] at e
      refine mm_T.guard (y := ((258, [some (.ref 62), some (.int y1)], []), (107, (mm_up (mm_up (mm_up (mm_up I 80 y1.toNatClampNeg (I 74 y1.toNatClampNeg)) 81 y1.toNatClampNeg (I 75 y1.toNatClampNeg)) 82 y1.toNatClampNeg (I 76 y1.toNatClampNeg)) 84 y1.toNatClampNeg ((mm_up (mm_up I 80 y1.toNatClampNeg (I 74 y1.toNatClampNeg)) 81 y1.toNatClampNeg (I 75 y1.toNatClampNeg)) 81 y1.toNatClampNeg)), J, mm_rf rv sp rr w nw))) rfl h493 ?_
      refine mm_T.seg (f' := (202, [some (.ref 62), some (.int (y1 + 1))], [])) (h' := (107, (mm_up (mm_up (mm_up (mm_up I 80 y1.toNatClampNeg (I 74 y1.toNatClampNeg)) 81 y1.toNatClampNeg (I 75 y1.toNatClampNeg)) 82 y1.toNatClampNeg (I 76 y1.toNatClampNeg)) 84 y1.toNatClampNeg ((mm_up (mm_up I 80 y1.toNatClampNeg (I 74 y1.toNatClampNeg)) 81 y1.toNatClampNeg (I 75 y1.toNatClampNeg)) 81 y1.toNatClampNeg)), J, mm_rf rv sp rr w nw)) 2 rfl ?_
      refine mm_T.mask [true, true] ?_
      exact ih (y1 + 1) (mm_up (mm_up (mm_up (mm_up I 80 y1.toNatClampNeg (I 74 y1.toNatClampNeg)) 81 y1.toNatClampNeg (I 75 y1.toNatClampNeg)) 82 y1.toNatClampNeg (I 76 y1.toNatClampNeg)) 84 y1.toNatClampNeg ((mm_up (mm_up I 80 y1.toNatClampNeg (I 74 y1.toNatClampNeg)) 81 y1.toNatClampNeg (I 75 y1.toNatClampNeg)) 81 y1.toNatClampNeg)) J rv sp rr w nw out e k
    · rw [if_neg h485] at e
      cases e
      refine mm_T.mask [true, false] ?_
      exact k
set_option maxRecDepth 100000 in
set_option maxHeartbeats 4000000 in
theorem tlX12_river_L266 (d : Nat) (Q : Option Value → mm_H → Prop) : ∀ (n : Nat) (y1 : Int32) (I : Nat → Nat → Int32) (J : Nat → Nat → Int64) (rv sp rr w nw : Nat), ∀ (out : (Nat → Nat → Int32)), fX12_river_L266 n y1 I = some out → mm_T none (d + 7) 250 (302, [some (.ref 62), none], []) (107, out, J, mm_rf rv sp rr w nw) Q → mm_T none (d + 7) 250 (266, [some (.ref 62), some (.int y1)], []) (107, I, J, mm_rf rv sp rr w nw) Q := by
  intro n
  induction n with
  | zero =>
    intro y1 I J rv sp rr w nw out e k
    rw [fX12_river_L266] at e; cases e
  | succ n ih =>
    intro y1 I J rv sp rr w nw out e k
    rw [fX12_river_L266] at e
    refine mm_T.seg (f' := (271, [some (.ref 62), some (.int y1)], [(.int (I 62 49)), (.int y1)])) (h' := (107, I, J, mm_rf rv sp rr w nw)) 3 rfl ?_
    refine mm_T.br (c := y1 < (I 62 49)) (a := ((274, [some (.ref 62), some (.int y1)], []), (107, I, J, mm_rf rv sp rr w nw))) (b := ((302, [some (.ref 62), some (.int y1)], []), (107, I, J, mm_rf rv sp rr w nw))) rfl (fun h495 => ?_) (fun h495 => ?_)
    · rw [if_pos h495] at e
      refine mm_T.seg (f' := (278, [some (.ref 62), some (.int y1)], [(.ref 83)])) (h' := (107, I, J, mm_rf rv sp rr w nw)) 2 rfl ?_
      refine mm_T.seg (f' := (283, [some (.ref 62), some (.int y1)], [(.ref 77), (.int y1), (.ref 83)])) (h' := (107, I, J, mm_rf rv sp rr w nw)) 3 rfl ?_
      refine mm_T.seg (f' := (284, [some (.ref 62), some (.int y1)], [(.int y1), (.ref 77), (.int y1), (.ref 83)])) (h' := (107, I, J, mm_rf rv sp rr w nw)) 1 rfl ?_
      by_cases h496 : y1 < 0 ∨ 7 ≤ y1.toNatClampNeg
      · rw [if_pos h496] at e; cases e
      rw [if_neg h496] at e
      refine mm_T.guard (y := ((285, [some (.ref 62), some (.int y1)], [(.int (I 77 y1.toNatClampNeg)), (.int y1), (.ref 83)]), (107, I, J, mm_rf rv sp rr w nw))) rfl h496 ?_
      by_cases h497 : y1 < 0 ∨ 7 ≤ y1.toNatClampNeg
      · rw [if_pos h497] at e; cases e
      rw [if_neg h497] at e
      refine mm_T.guard (y := ((286, [some (.ref 62), some (.int y1)], []), (107, (mm_up I 83 y1.toNatClampNeg (I 77 y1.toNatClampNeg)), J, mm_rf rv sp rr w nw))) rfl h497 ?_
      refine mm_T.seg (f' := (290, [some (.ref 62), some (.int y1)], [(.ref 84)])) (h' := (107, (mm_up I 83 y1.toNatClampNeg (I 77 y1.toNatClampNeg)), J, mm_rf rv sp rr w nw)) 2 rfl ?_
      refine mm_T.seg (f' := (295, [some (.ref 62), some (.int y1)], [(.int (-1)), (.int (20 + y1)), (.ref 84)])) (h' := (107, (mm_up I 83 y1.toNatClampNeg (I 77 y1.toNatClampNeg)), J, mm_rf rv sp rr w nw)) 4 rfl ?_
      by_cases h498 : (20 + y1) < 0 ∨ 28 ≤ (20 + y1).toNatClampNeg
      · rw [if_pos h498] at e; cases e
      rw [if_neg h498] at e
      refine mm_T.guard (c := (20 + y1) < 0 ∨ 28 ≤ (20 + y1).toNatClampNeg) (y := ((296, [some (.ref 62), some (.int y1)], []), (107, (mm_up (mm_up I 83 y1.toNatClampNeg (I 77 y1.toNatClampNeg)) 84 (20 + y1).toNatClampNeg (-1)), J, mm_rf rv sp rr w nw))) (mm_gen (P := fun z => mm_stp none 250 (295, [some (.ref 62), some (.int y1)], [(.int (-1)), (.int z), (.ref 84)]) (107, (mm_up I 83 y1.toNatClampNeg (I 77 y1.toNatClampNeg)), J, mm_rf rv sp rr w nw) = if z < 0 ∨ 28 ≤ z.toNatClampNeg then none else some (.inl ((296, [some (.ref 62), some (.int y1)], []), (107, (mm_up (mm_up I 83 y1.toNatClampNeg (I 77 y1.toNatClampNeg)) 84 z.toNatClampNeg (-1)), J, mm_rf rv sp rr w nw)))) (20 + y1) (fun z => rfl)) h498 ?_
      refine mm_T.seg (f' := (266, [some (.ref 62), some (.int (y1 + 1))], [])) (h' := (107, (mm_up (mm_up I 83 y1.toNatClampNeg (I 77 y1.toNatClampNeg)) 84 (20 + y1).toNatClampNeg (-1)), J, mm_rf rv sp rr w nw)) 2 rfl ?_
      refine mm_T.mask [true, true] ?_
      exact ih (y1 + 1) (mm_up (mm_up I 83 y1.toNatClampNeg (I 77 y1.toNatClampNeg)) 84 (20 + y1).toNatClampNeg (-1)) J rv sp rr w nw out e k
    · rw [if_neg h495] at e
      cases e
      refine mm_T.mask [true, false] ?_
      exact k
set_option maxRecDepth 100000 in
set_option maxHeartbeats 4000000 in
theorem tlX12_river_L335 (d : Nat) (Q : Option Value → mm_H → Prop) : ∀ (n : Nat) (y1 : Int32) (I : Nat → Nat → Int32) (J : Nat → Nat → Int64) (rv sp rr w nw : Nat), ∀ (out : (Nat → Nat → Int32)), fX12_river_L335 n y1 I = some out → mm_T none (d + 7) 250 (353, [some (.ref 62), none], []) (107, out, J, mm_rf rv sp rr w nw) Q → mm_T none (d + 7) 250 (335, [some (.ref 62), some (.int y1)], []) (107, I, J, mm_rf rv sp rr w nw) Q := by
  intro n
  induction n with
  | zero =>
    intro y1 I J rv sp rr w nw out e k
    rw [fX12_river_L335] at e; cases e
  | succ n ih =>
    intro y1 I J rv sp rr w nw out e k
    rw [fX12_river_L335] at e
    refine mm_T.seg (f' := (337, [some (.ref 62), some (.int y1)], [(.int 3), (.int y1)])) (h' := (107, I, J, mm_rf rv sp rr w nw)) 2 rfl ?_
    refine mm_T.br (c := y1 < 3) (a := ((340, [some (.ref 62), some (.int y1)], []), (107, I, J, mm_rf rv sp rr w nw))) (b := ((353, [some (.ref 62), some (.int y1)], []), (107, I, J, mm_rf rv sp rr w nw))) rfl (fun h500 => ?_) (fun h500 => ?_)
    · rw [if_pos h500] at e
      refine mm_T.seg (f' := (344, [some (.ref 62), some (.int y1)], [(.ref 105)])) (h' := (107, I, J, mm_rf rv sp rr w nw)) 2 rfl ?_
      refine mm_T.seg (f' := (346, [some (.ref 62), some (.int y1)], [(.int 0), (.int y1), (.ref 105)])) (h' := (107, I, J, mm_rf rv sp rr w nw)) 2 rfl ?_
      by_cases h501 : y1 < 0 ∨ 3 ≤ y1.toNatClampNeg
      · rw [if_pos h501] at e; cases e
      rw [if_neg h501] at e
      refine mm_T.guard (y := ((347, [some (.ref 62), some (.int y1)], []), (107, (mm_up I 105 y1.toNatClampNeg (vp_nar .boolean 0)), J, mm_rf rv sp rr w nw))) rfl h501 ?_
      refine mm_T.seg (f' := (335, [some (.ref 62), some (.int (y1 + 1))], [])) (h' := (107, (mm_up I 105 y1.toNatClampNeg (vp_nar .boolean 0)), J, mm_rf rv sp rr w nw)) 2 rfl ?_
      refine mm_T.mask [true, true] ?_
      exact ih (y1 + 1) (mm_up I 105 y1.toNatClampNeg (vp_nar .boolean 0)) J rv sp rr w nw out e k
    · rw [if_neg h500] at e
      cases e
      refine mm_T.mask [true, false] ?_
      exact k
set_option maxRecDepth 100000 in
set_option maxHeartbeats 4000000 in
theorem tbX12_river_J77 (d n : Nat) (u0 : Int32) (I : Nat → Nat → Int32) (J : Nat → Nat → Int64) (rv sp rr w nw : Nat) (out : Int32 × (Nat → Nat → Int32) × (Nat → Nat → Int64)) (e : fX12_river_J77 n u0 I J = some out) : mm_T none (d + 7) 250 (77, [some (.ref 62), none], [(.int u0), (.ref 62)]) (107, I, J, mm_rf rv sp rr w nw) (fun v h => v = some (.int out.1) ∧ h = (107, out.2.1, out.2.2, mm_rf rv sp rr w nw)) := by
  unfold fX12_river_J77 at e
  refine mm_T.seg (f' := (82, [some (.ref 62), some (.int 0)], [])) (h' := (107, (mm_up I 62 18 u0), J, mm_rf rv sp rr w nw)) 3 rfl ?_
  refine mm_T.mask [true, true] ?_
  obtain ⟨o466, eo466, e⟩ := mm_bind e
  refine tlX12_river_L82 d _ n 0 (mm_up I 62 18 u0) J rv sp rr w nw o466 eo466 ?_
  refine mm_T.seg (f' := (122, [some (.ref 62), some (.int 0)], [])) (h' := (107, o466, J, mm_rf rv sp rr w nw)) 2 rfl ?_
  refine mm_T.mask [true, true] ?_
  obtain ⟨o481, eo481, e⟩ := mm_bind e
  refine tlX12_river_L122 d _ n 0 o466 J rv sp rr w nw o481 eo481 ?_
  refine mm_T.seg (f' := (181, [some (.ref 62), some (.int 0)], [])) (h' := (107, o481, J, mm_rf rv sp rr w nw)) 2 rfl ?_
  refine mm_T.mask [true, true] ?_
  obtain ⟨o484, eo484, e⟩ := mm_bind e
  refine tlX12_river_L181 d _ n 0 o481 J rv sp rr w nw o484 eo484 ?_
  refine mm_T.seg (f' := (202, [some (.ref 62), some (.int 0)], [])) (h' := (107, o484, J, mm_rf rv sp rr w nw)) 2 rfl ?_
  refine mm_T.mask [true, true] ?_
  obtain ⟨o494, eo494, e⟩ := mm_bind e
  refine tlX12_river_L202 d _ n 0 o484 J rv sp rr w nw o494 eo494 ?_
  refine mm_T.seg (f' := (266, [some (.ref 62), some (.int 0)], [])) (h' := (107, o494, J, mm_rf rv sp rr w nw)) 2 rfl ?_
  refine mm_T.mask [true, true] ?_
  obtain ⟨o499, eo499, e⟩ := mm_bind e
  refine tlX12_river_L266 d _ n 0 o494 J rv sp rr w nw o499 eo499 ?_
  refine mm_T.seg (f' := (306, [some (.ref 62), none], [(.ref 84)])) (h' := (107, o499, J, mm_rf rv sp rr w nw)) 2 rfl ?_
  refine mm_T.seg (f' := (335, [some (.ref 62), some (.int 0)], [])) (h' := (107, (mm_up (mm_up (mm_up (mm_up (mm_up o499 84 27 (o499 62 45)) 62 57 0) 62 58 0) 62 75 0) 62 61 0), J, mm_rf rv sp rr w nw)) 18 rfl ?_
  refine mm_T.mask [true, true] ?_
  obtain ⟨o502, eo502, e⟩ := mm_bind e
  refine tlX12_river_L335 d _ n 0 (mm_up (mm_up (mm_up (mm_up (mm_up o499 84 27 (o499 62 45)) 62 57 0) 62 58 0) 62 75 0) 62 61 0) J rv sp rr w nw o502 eo502 ?_
  refine mm_T.seg (f' := (357, [some (.ref 62), none], [(.int (o502 62 48))])) (h' := (107, o502, J, mm_rf rv sp rr w nw)) 2 rfl ?_
  cases e
  exact mm_T.ret rfl ⟨rfl, rfl⟩
set_option maxRecDepth 100000 in
set_option maxHeartbeats 4000000 in
theorem tX12_river (d n : Nat) (I : Nat → Nat → Int32) (J : Nat → Nat → Int64) (rv sp rr w nw : Nat) (out : Int32 × (Nat → Nat → Int32) × (Nat → Nat → Int64)) (e : fX12_river n I J = some out) : mm_T none (d + 7) 250 (mm_ent 250 [(.ref 62)]) (107, I, J, mm_rf rv sp rr w nw) (fun v h => v = some (.int out.1) ∧ h = (107, out.2.1, out.2.2, mm_rf rv sp rr w nw)) := by
  unfold fX12_river at e
  refine mm_T.seg (f' := (1, [some (.ref 62), none], [(.ref 62)])) (h' := (107, I, J, mm_rf rv sp rr w nw)) 1 rfl ?_
  obtain ⟨o458, eo458, e⟩ := mm_bind e
  refine mm_T.call (t := 249) (as := [(.ref 62)]) (f' := (4, [some (.ref 62), none], [])) rfl (tX12_readAll (d + 0) n I J rv sp rr w nw o458 eo458) (fun v h hq => ?_)
  obtain ⟨rfl, rfl⟩ := hq
  refine mm_T.seg (f' := (8, [some (.ref 62), none], [(.int (o458.1 62 2))])) (h' := (107, o458.1, o458.2, mm_rf rv sp rr w nw)) 2 rfl ?_
  refine mm_T.br (c := 0 < (o458.1 62 2)) (a := ((11, [some (.ref 62), none], []), (107, o458.1, o458.2, mm_rf rv sp rr w nw))) (b := ((13, [some (.ref 62), none], []), (107, o458.1, o458.2, mm_rf rv sp rr w nw))) rfl (fun h459 => ?_) (fun h459 => ?_)
  · rw [if_pos h459] at e
    refine mm_T.seg (f' := (12, [some (.ref 62), none], [(.int (-1))])) (h' := (107, o458.1, o458.2, mm_rf rv sp rr w nw)) 1 rfl ?_
    cases e
    exact mm_T.ret rfl ⟨rfl, rfl⟩
  · rw [if_neg h459] at e
    refine mm_T.seg (f' := (66, [some (.ref 62), none], [(.int (o458.1 62 24)), (.ref 62)])) (h' := (107, (mm_up (mm_up (mm_up (mm_up (mm_up (mm_up o458.1 62 46 (o458.1 62 38)) 62 47 (o458.1 62 39)) 62 48 (o458.1 62 42)) 62 49 (o458.1 62 43)) 62 50 (o458.1 62 44)) 62 21 (o458.1 62 20)), o458.2, mm_rf rv sp rr w nw)) 27 rfl ?_
    refine mm_T.br (c := (o458.1 62 24) = 0) (a := ((76, [some (.ref 62), none], [(.ref 62)]), (107, (mm_up (mm_up (mm_up (mm_up (mm_up (mm_up o458.1 62 46 (o458.1 62 38)) 62 47 (o458.1 62 39)) 62 48 (o458.1 62 42)) 62 49 (o458.1 62 43)) 62 50 (o458.1 62 44)) 62 21 (o458.1 62 20)), o458.2, mm_rf rv sp rr w nw))) (b := ((69, [some (.ref 62), none], [(.ref 62)]), (107, (mm_up (mm_up (mm_up (mm_up (mm_up (mm_up o458.1 62 46 (o458.1 62 38)) 62 47 (o458.1 62 39)) 62 48 (o458.1 62 42)) 62 49 (o458.1 62 43)) 62 50 (o458.1 62 44)) 62 21 (o458.1 62 20)), o458.2, mm_rf rv sp rr w nw))) rfl (fun h460 => ?_) (fun h460 => ?_)
    · rw [if_pos h460] at e
      refine mm_T.seg (f' := (77, [some (.ref 62), none], [(.int 0), (.ref 62)])) (h' := (107, (mm_up (mm_up (mm_up (mm_up (mm_up (mm_up o458.1 62 46 (o458.1 62 38)) 62 47 (o458.1 62 39)) 62 48 (o458.1 62 42)) 62 49 (o458.1 62 43)) 62 50 (o458.1 62 44)) 62 21 (o458.1 62 20)), o458.2, mm_rf rv sp rr w nw)) 1 rfl ?_
      refine mm_T.mask [true, false] ?_
      exact tbX12_river_J77 d n 0 (mm_up (mm_up (mm_up (mm_up (mm_up (mm_up o458.1 62 46 (o458.1 62 38)) 62 47 (o458.1 62 39)) 62 48 (o458.1 62 42)) 62 49 (o458.1 62 43)) 62 50 (o458.1 62 44)) 62 21 (o458.1 62 20)) o458.2 rv sp rr w nw out e
    · rw [if_neg h460] at e
      refine mm_T.seg (f' := (77, [some (.ref 62), none], [(.int (o458.1 62 17)), (.ref 62)])) (h' := (107, (mm_up (mm_up (mm_up (mm_up (mm_up (mm_up o458.1 62 46 (o458.1 62 38)) 62 47 (o458.1 62 39)) 62 48 (o458.1 62 42)) 62 49 (o458.1 62 43)) 62 50 (o458.1 62 44)) 62 21 (o458.1 62 20)), o458.2, mm_rf rv sp rr w nw)) 3 rfl ?_
      refine mm_T.mask [true, false] ?_
      exact tbX12_river_J77 d n (o458.1 62 17) (mm_up (mm_up (mm_up (mm_up (mm_up (mm_up o458.1 62 46 (o458.1 62 38)) 62 47 (o458.1 62 39)) 62 48 (o458.1 62 42)) 62 49 (o458.1 62 43)) 62 50 (o458.1 62 44)) 62 21 (o458.1 62 20)) o458.2 rv sp rr w nw out e
set_option maxRecDepth 100000 in
set_option maxHeartbeats 4000000 in
theorem tX12_fault (d : Nat) (x1 : Int32) (I : Nat → Nat → Int32) (J : Nat → Nat → Int64) (rv sp rr w nw : Nat) (out : Int32) (e : fX12_fault x1 I = out) : mm_T none (d + 0) 251 (mm_ent 251 [(.ref 62), (.int x1)]) (107, I, J, mm_rf rv sp rr w nw) (fun v h => v = some (.int out) ∧ h = (107, I, J, mm_rf rv sp rr w nw)) := by
  unfold fX12_fault at e
  refine mm_T.seg (f' := (1, [some (.ref 62), some (.int x1)], [(.int x1)])) (h' := (107, I, J, mm_rf rv sp rr w nw)) 1 rfl ?_
  refine mm_T.br (c := x1 = 0) (a := ((4, [some (.ref 62), some (.int x1)], []), (107, I, J, mm_rf rv sp rr w nw))) (b := ((11, [some (.ref 62), some (.int x1)], []), (107, I, J, mm_rf rv sp rr w nw))) rfl (fun h503 => ?_) (fun h503 => ?_)
  · rw [if_pos h503] at e
    refine mm_T.seg (f' := (24, [some (.ref 62), some (.int x1)], [(.int (I 62 2))])) (h' := (107, I, J, mm_rf rv sp rr w nw)) 3 rfl ?_
    cases e
    exact mm_T.ret rfl ⟨rfl, rfl⟩
  · rw [if_neg h503] at e
    refine mm_T.seg (f' := (13, [some (.ref 62), some (.int x1)], [(.int 1), (.int x1)])) (h' := (107, I, J, mm_rf rv sp rr w nw)) 2 rfl ?_
    refine mm_T.br (c := x1 = 1) (a := ((16, [some (.ref 62), some (.int x1)], []), (107, I, J, mm_rf rv sp rr w nw))) (b := ((23, [some (.ref 62), some (.int x1)], []), (107, I, J, mm_rf rv sp rr w nw))) rfl (fun h504 => ?_) (fun h504 => ?_)
    · rw [if_pos h504] at e
      refine mm_T.seg (f' := (24, [some (.ref 62), some (.int x1)], [(.int (I 62 3))])) (h' := (107, I, J, mm_rf rv sp rr w nw)) 3 rfl ?_
      cases e
      exact mm_T.ret rfl ⟨rfl, rfl⟩
    · rw [if_neg h504] at e
      refine mm_T.seg (f' := (24, [some (.ref 62), some (.int x1)], [(.int (-1))])) (h' := (107, I, J, mm_rf rv sp rr w nw)) 1 rfl ?_
      cases e
      exact mm_T.ret rfl ⟨rfl, rfl⟩
set_option maxRecDepth 100000 in
set_option maxHeartbeats 4000000 in
theorem tX12_isIn (d : Nat) (x0 : Int32) (x1 : Int32) (x2 : Int32) (I : Nat → Nat → Int32) (J : Nat → Nat → Int64) (rv sp rr w nw : Nat) (out : Int32) (e : fX12_isIn x0 x1 x2 = out) : mm_T none (d + 0) 252 (mm_ent 252 [(.int x0), (.int x1), (.int x2)]) (107, I, J, mm_rf rv sp rr w nw) (fun v h => v = some (.int out) ∧ h = (107, I, J, mm_rf rv sp rr w nw)) := by
  unfold fX12_isIn at e
  refine mm_T.seg (f' := (2, [some (.int x0), some (.int x1), some (.int x2)], [(.int x1), (.int x0)])) (h' := (107, I, J, mm_rf rv sp rr w nw)) 2 rfl ?_
  refine mm_T.br (c := x0 < x1) (a := ((14, [some (.int x0), some (.int x1), some (.int x2)], []), (107, I, J, mm_rf rv sp rr w nw))) (b := ((5, [some (.int x0), some (.int x1), some (.int x2)], []), (107, I, J, mm_rf rv sp rr w nw))) rfl (fun h505 => ?_) (fun h505 => ?_)
  · rw [if_pos h505] at e
    refine mm_T.seg (f' := (15, [some (.int x0), some (.int x1), some (.int x2)], [(.int 0)])) (h' := (107, I, J, mm_rf rv sp rr w nw)) 1 rfl ?_
    cases e
    exact mm_T.ret rfl ⟨rfl, rfl⟩
  · rw [if_neg h505] at e
    refine mm_T.seg (f' := (7, [some (.int x0), some (.int x1), some (.int x2)], [(.int x2), (.int x0)])) (h' := (107, I, J, mm_rf rv sp rr w nw)) 2 rfl ?_
    refine mm_T.br (c := x2 < x0) (a := ((14, [some (.int x0), some (.int x1), some (.int x2)], []), (107, I, J, mm_rf rv sp rr w nw))) (b := ((10, [some (.int x0), some (.int x1), some (.int x2)], []), (107, I, J, mm_rf rv sp rr w nw))) rfl (fun h506 => ?_) (fun h506 => ?_)
    · rw [if_pos h506] at e
      refine mm_T.seg (f' := (15, [some (.int x0), some (.int x1), some (.int x2)], [(.int 0)])) (h' := (107, I, J, mm_rf rv sp rr w nw)) 1 rfl ?_
      cases e
      exact mm_T.ret rfl ⟨rfl, rfl⟩
    · rw [if_neg h506] at e
      refine mm_T.seg (f' := (15, [some (.int x0), some (.int x1), some (.int x2)], [(.int 1)])) (h' := (107, I, J, mm_rf rv sp rr w nw)) 2 rfl ?_
      cases e
      exact mm_T.ret rfl ⟨rfl, rfl⟩
set_option maxRecDepth 100000 in
set_option maxHeartbeats 4000000 in
theorem tX12_isBoard (d : Nat) (x1 : Int32) (I : Nat → Nat → Int32) (J : Nat → Nat → Int64) (rv sp rr w nw : Nat) (out : Int32) (e : fX12_isBoard x1 I = some out) : mm_T none (d + 1) 253 (mm_ent 253 [(.ref 62), (.int x1)]) (107, I, J, mm_rf rv sp rr w nw) (fun v h => v = some (.int out) ∧ h = (107, I, J, mm_rf rv sp rr w nw)) := by
  unfold fX12_isBoard at e
  refine mm_T.seg (f' := (8, [some (.ref 62), some (.int x1)], [(.int ((I 62 48) - 1)), (.int 0), (.int x1)])) (h' := (107, I, J, mm_rf rv sp rr w nw)) 6 rfl ?_
  obtain ⟨g121, hg121⟩ : ∃ z, fX12_isIn x1 0 ((I 62 48) - 1) = z := ⟨_, rfl⟩
  try rw [hg121] at e
  refine mm_T.call (t := 252) (as := [(.int x1), (.int 0), (.int ((I 62 48) - 1))]) (f' := (11, [some (.ref 62), some (.int x1)], [])) rfl (tX12_isIn (d + 0) x1 0 ((I 62 48) - 1) I J rv sp rr w nw g121 hg121) (fun v h hq => ?_)
  obtain ⟨rfl, rfl⟩ := hq
  by_cases h507 : g121 = 0 ∨ g121 = 1
  case neg => rw [if_neg h507] at e; cases e
  rw [if_pos h507] at e
  cases e
  first | exact mm_T.retZ (v := some (.int g121)) rfl h507 ⟨rfl, rfl⟩ | exact mm_T.retZ (v := some (.int out)) rfl h507 ⟨rfl, rfl⟩
set_option maxRecDepth 100000 in
set_option maxHeartbeats 4000000 in
theorem tX12_isLoad (d : Nat) (x1 : Int32) (I : Nat → Nat → Int32) (J : Nat → Nat → Int64) (rv sp rr w nw : Nat) (out : Int32) (e : fX12_isLoad x1 I = some out) : mm_T none (d + 1) 254 (mm_ent 254 [(.ref 62), (.int x1)]) (107, I, J, mm_rf rv sp rr w nw) (fun v h => v = some (.int out) ∧ h = (107, I, J, mm_rf rv sp rr w nw)) := by
  unfold fX12_isLoad at e
  refine mm_T.seg (f' := (8, [some (.ref 62), some (.int x1)], [(.int ((I 62 49) - 1)), (.int 0), (.int x1)])) (h' := (107, I, J, mm_rf rv sp rr w nw)) 6 rfl ?_
  obtain ⟨g122, hg122⟩ : ∃ z, fX12_isIn x1 0 ((I 62 49) - 1) = z := ⟨_, rfl⟩
  try rw [hg122] at e
  refine mm_T.call (t := 252) (as := [(.int x1), (.int 0), (.int ((I 62 49) - 1))]) (f' := (11, [some (.ref 62), some (.int x1)], [])) rfl (tX12_isIn (d + 0) x1 0 ((I 62 49) - 1) I J rv sp rr w nw g122 hg122) (fun v h hq => ?_)
  obtain ⟨rfl, rfl⟩ := hq
  by_cases h508 : g122 = 0 ∨ g122 = 1
  case neg => rw [if_neg h508] at e; cases e
  rw [if_pos h508] at e
  cases e
  first | exact mm_T.retZ (v := some (.int g122)) rfl h508 ⟨rfl, rfl⟩ | exact mm_T.retZ (v := some (.int out)) rfl h508 ⟨rfl, rfl⟩
set_option maxRecDepth 100000 in
set_option maxHeartbeats 4000000 in
theorem tlX12_members_L4 (d : Nat) (Q : Option Value → mm_H → Prop) : ∀ (n : Nat) (y0 : Int32) (y1 : Int32) (y2 : Int32) (I : Nat → Nat → Int32) (J : Nat → Nat → Int64) (rv sp rr w nw : Nat), ∀ (out : Int32), fX12_members_L4 n y0 y1 y2 = some out → mm_T none (d + 0) 255 (24, [none, some (.int out), none], []) (107, I, J, mm_rf rv sp rr w nw) Q → mm_T none (d + 0) 255 (4, [some (.int y0), some (.int y1), some (.int y2)], []) (107, I, J, mm_rf rv sp rr w nw) Q := by
  intro n
  induction n with
  | zero =>
    intro y0 y1 y2 I J rv sp rr w nw out e k
    rw [fX12_members_L4] at e; cases e
  | succ n ih =>
    intro y0 y1 y2 I J rv sp rr w nw out e k
    rw [fX12_members_L4] at e
    refine mm_T.seg (f' := (7, [some (.int y0), some (.int y1), some (.int y2)], [(.int 8), (.int y2)])) (h' := (107, I, J, mm_rf rv sp rr w nw)) 2 rfl ?_
    refine mm_T.br (c := y2 < 8) (a := ((10, [some (.int y0), some (.int y1), some (.int y2)], []), (107, I, J, mm_rf rv sp rr w nw))) (b := ((24, [some (.int y0), some (.int y1), some (.int y2)], []), (107, I, J, mm_rf rv sp rr w nw))) rfl (fun h509 => ?_) (fun h509 => ?_)
    · rw [if_pos h509] at e
      refine mm_T.seg (f' := (4, [some (.int y0), some (.int (y1 + ((y0 >>> (y2 &&& 31)) &&& 1))), some (.int (y2 + 1))], [])) (h' := (107, I, J, mm_rf rv sp rr w nw)) 10 rfl ?_
      refine mm_T.mask [true, true, true] ?_
      exact ih y0 (y1 + ((y0 >>> (y2 &&& 31)) &&& 1)) (y2 + 1) I J rv sp rr w nw out e k
    · rw [if_neg h509] at e
      cases e
      refine mm_T.mask [false, true, false] ?_
      exact k
set_option maxRecDepth 100000 in
set_option maxHeartbeats 4000000 in
theorem tX12_members (d n : Nat) (x0 : Int32) (I : Nat → Nat → Int32) (J : Nat → Nat → Int64) (rv sp rr w nw : Nat) (out : Int32) (e : fX12_members n x0 = some out) : mm_T none (d + 0) 255 (mm_ent 255 [(.int x0)]) (107, I, J, mm_rf rv sp rr w nw) (fun v h => v = some (.int out) ∧ h = (107, I, J, mm_rf rv sp rr w nw)) := by
  unfold fX12_members at e
  refine mm_T.seg (f' := (4, [some (.int x0), some (.int 0), some (.int 0)], [])) (h' := (107, I, J, mm_rf rv sp rr w nw)) 4 rfl ?_
  refine mm_T.mask [true, true, true] ?_
  obtain ⟨o510, eo510, e⟩ := mm_bind e
  refine tlX12_members_L4 d _ n x0 0 0 I J rv sp rr w nw o510 eo510 ?_
  refine mm_T.seg (f' := (25, [none, some (.int o510), none], [(.int o510)])) (h' := (107, I, J, mm_rf rv sp rr w nw)) 1 rfl ?_
  cases e
  exact mm_T.ret rfl ⟨rfl, rfl⟩
set_option maxRecDepth 100000 in
set_option maxHeartbeats 4000000 in
theorem tlX12_fill_L2 (d : Nat) (Q : Option Value → mm_H → Prop) : ∀ (n : Nat) (y1 : Int32) (I : Nat → Nat → Int32) (J : Nat → Nat → Int64) (rv sp rr w nw : Nat), ∀ (out : (Nat → Nat → Int32)), fX12_fill_L2 n y1 I = some out → mm_T none (d + 0) 256 (26, [none, none], []) (107, out, J, mm_rf rv sp rr w nw) Q → mm_T none (d + 0) 256 (2, [some (.ref 62), some (.int y1)], []) (107, I, J, mm_rf rv sp rr w nw) Q := by
  intro n
  induction n with
  | zero =>
    intro y1 I J rv sp rr w nw out e k
    rw [fX12_fill_L2] at e; cases e
  | succ n ih =>
    intro y1 I J rv sp rr w nw out e k
    rw [fX12_fill_L2] at e
    refine mm_T.seg (f' := (5, [some (.ref 62), some (.int y1)], [(.int 28), (.int y1)])) (h' := (107, I, J, mm_rf rv sp rr w nw)) 2 rfl ?_
    refine mm_T.br (c := y1 < 28) (a := ((8, [some (.ref 62), some (.int y1)], []), (107, I, J, mm_rf rv sp rr w nw))) (b := ((26, [some (.ref 62), some (.int y1)], []), (107, I, J, mm_rf rv sp rr w nw))) rfl (fun h511 => ?_) (fun h511 => ?_)
    · rw [if_pos h511] at e
      refine mm_T.seg (f' := (12, [some (.ref 62), some (.int y1)], [(.ref 85)])) (h' := (107, I, J, mm_rf rv sp rr w nw)) 2 rfl ?_
      refine mm_T.seg (f' := (17, [some (.ref 62), some (.int y1)], [(.ref 84), (.int y1), (.ref 85)])) (h' := (107, I, J, mm_rf rv sp rr w nw)) 3 rfl ?_
      refine mm_T.seg (f' := (18, [some (.ref 62), some (.int y1)], [(.int y1), (.ref 84), (.int y1), (.ref 85)])) (h' := (107, I, J, mm_rf rv sp rr w nw)) 1 rfl ?_
      by_cases h512 : y1 < 0 ∨ 28 ≤ y1.toNatClampNeg
      · rw [if_pos h512] at e; cases e
      rw [if_neg h512] at e
      refine mm_T.guard (y := ((19, [some (.ref 62), some (.int y1)], [(.int (I 84 y1.toNatClampNeg)), (.int y1), (.ref 85)]), (107, I, J, mm_rf rv sp rr w nw))) rfl h512 ?_
      by_cases h513 : y1 < 0 ∨ 28 ≤ y1.toNatClampNeg
      · rw [if_pos h513] at e; cases e
      rw [if_neg h513] at e
      refine mm_T.guard (y := ((20, [some (.ref 62), some (.int y1)], []), (107, (mm_up I 85 y1.toNatClampNeg (I 84 y1.toNatClampNeg)), J, mm_rf rv sp rr w nw))) rfl h513 ?_
      refine mm_T.seg (f' := (2, [some (.ref 62), some (.int (y1 + 1))], [])) (h' := (107, (mm_up I 85 y1.toNatClampNeg (I 84 y1.toNatClampNeg)), J, mm_rf rv sp rr w nw)) 2 rfl ?_
      refine mm_T.mask [true, true] ?_
      exact ih (y1 + 1) (mm_up I 85 y1.toNatClampNeg (I 84 y1.toNatClampNeg)) J rv sp rr w nw out e k
    · rw [if_neg h511] at e
      cases e
      refine mm_T.mask [false, false] ?_
      exact k
set_option maxRecDepth 100000 in
set_option maxHeartbeats 4000000 in
theorem tX12_fill (d n : Nat) (I : Nat → Nat → Int32) (J : Nat → Nat → Int64) (rv sp rr w nw : Nat) (out : (Nat → Nat → Int32)) (e : fX12_fill n I = some out) : mm_T none (d + 0) 256 (mm_ent 256 [(.ref 62)]) (107, I, J, mm_rf rv sp rr w nw) (fun v h => v = none ∧ h = (107, out, J, mm_rf rv sp rr w nw)) := by
  unfold fX12_fill at e
  refine mm_T.seg (f' := (2, [some (.ref 62), some (.int 0)], [])) (h' := (107, I, J, mm_rf rv sp rr w nw)) 2 rfl ?_
  refine mm_T.mask [true, true] ?_
  obtain ⟨o514, eo514, e⟩ := mm_bind e
  refine tlX12_fill_L2 d _ n 0 I J rv sp rr w nw o514 eo514 ?_
  cases e
  exact mm_T.ret rfl ⟨rfl, rfl⟩
set_option maxRecDepth 100000 in
set_option maxHeartbeats 4000000 in
theorem tlX12_keepAir_L2 (d : Nat) (Q : Option Value → mm_H → Prop) : ∀ (n : Nat) (y1 : Int32) (I : Nat → Nat → Int32) (J : Nat → Nat → Int64) (rv sp rr w nw : Nat), ∀ (out : (Nat → Nat → Int32)), fX12_keepAir_L2 n y1 I = some out → mm_T none (d + 0) 257 (26, [none, none], []) (107, out, J, mm_rf rv sp rr w nw) Q → mm_T none (d + 0) 257 (2, [some (.ref 62), some (.int y1)], []) (107, I, J, mm_rf rv sp rr w nw) Q := by
  intro n
  induction n with
  | zero =>
    intro y1 I J rv sp rr w nw out e k
    rw [fX12_keepAir_L2] at e; cases e
  | succ n ih =>
    intro y1 I J rv sp rr w nw out e k
    rw [fX12_keepAir_L2] at e
    refine mm_T.seg (f' := (5, [some (.ref 62), some (.int y1)], [(.int 28), (.int y1)])) (h' := (107, I, J, mm_rf rv sp rr w nw)) 2 rfl ?_
    refine mm_T.br (c := y1 < 28) (a := ((8, [some (.ref 62), some (.int y1)], []), (107, I, J, mm_rf rv sp rr w nw))) (b := ((26, [some (.ref 62), some (.int y1)], []), (107, I, J, mm_rf rv sp rr w nw))) rfl (fun h515 => ?_) (fun h515 => ?_)
    · rw [if_pos h515] at e
      refine mm_T.seg (f' := (12, [some (.ref 62), some (.int y1)], [(.ref 84)])) (h' := (107, I, J, mm_rf rv sp rr w nw)) 2 rfl ?_
      refine mm_T.seg (f' := (17, [some (.ref 62), some (.int y1)], [(.ref 85), (.int y1), (.ref 84)])) (h' := (107, I, J, mm_rf rv sp rr w nw)) 3 rfl ?_
      refine mm_T.seg (f' := (18, [some (.ref 62), some (.int y1)], [(.int y1), (.ref 85), (.int y1), (.ref 84)])) (h' := (107, I, J, mm_rf rv sp rr w nw)) 1 rfl ?_
      by_cases h516 : y1 < 0 ∨ 28 ≤ y1.toNatClampNeg
      · rw [if_pos h516] at e; cases e
      rw [if_neg h516] at e
      refine mm_T.guard (y := ((19, [some (.ref 62), some (.int y1)], [(.int (I 85 y1.toNatClampNeg)), (.int y1), (.ref 84)]), (107, I, J, mm_rf rv sp rr w nw))) rfl h516 ?_
      by_cases h517 : y1 < 0 ∨ 28 ≤ y1.toNatClampNeg
      · rw [if_pos h517] at e; cases e
      rw [if_neg h517] at e
      refine mm_T.guard (y := ((20, [some (.ref 62), some (.int y1)], []), (107, (mm_up I 84 y1.toNatClampNeg (I 85 y1.toNatClampNeg)), J, mm_rf rv sp rr w nw))) rfl h517 ?_
      refine mm_T.seg (f' := (2, [some (.ref 62), some (.int (y1 + 1))], [])) (h' := (107, (mm_up I 84 y1.toNatClampNeg (I 85 y1.toNatClampNeg)), J, mm_rf rv sp rr w nw)) 2 rfl ?_
      refine mm_T.mask [true, true] ?_
      exact ih (y1 + 1) (mm_up I 84 y1.toNatClampNeg (I 85 y1.toNatClampNeg)) J rv sp rr w nw out e k
    · rw [if_neg h515] at e
      cases e
      refine mm_T.mask [false, false] ?_
      exact k
set_option maxRecDepth 100000 in
set_option maxHeartbeats 4000000 in
theorem tX12_keepAir (d n : Nat) (I : Nat → Nat → Int32) (J : Nat → Nat → Int64) (rv sp rr w nw : Nat) (out : (Nat → Nat → Int32)) (e : fX12_keepAir n I = some out) : mm_T none (d + 0) 257 (mm_ent 257 [(.ref 62)]) (107, I, J, mm_rf rv sp rr w nw) (fun v h => v = none ∧ h = (107, out, J, mm_rf rv sp rr w nw)) := by
  unfold fX12_keepAir at e
  refine mm_T.seg (f' := (2, [some (.ref 62), some (.int 0)], [])) (h' := (107, I, J, mm_rf rv sp rr w nw)) 2 rfl ?_
  refine mm_T.mask [true, true] ?_
  obtain ⟨o518, eo518, e⟩ := mm_bind e
  refine tlX12_keepAir_L2 d _ n 0 I J rv sp rr w nw o518 eo518 ?_
  cases e
  exact mm_T.ret rfl ⟨rfl, rfl⟩
set_option maxRecDepth 100000 in
set_option maxHeartbeats 4000000 in
theorem tX12_currentAt (d : Nat) (x1 : Int32) (x2 : Int32) (I : Nat → Nat → Int32) (J : Nat → Nat → Int64) (rv sp rr w nw : Nat) (out : Int32) (e : fX12_currentAt x1 x2 I = some out) : mm_T none (d + 0) 258 (mm_ent 258 [(.ref 62), (.int x1), (.int x2)]) (107, I, J, mm_rf rv sp rr w nw) (fun v h => v = some (.int out) ∧ h = (107, I, J, mm_rf rv sp rr w nw)) := by
  unfold fX12_currentAt at e
  refine mm_T.seg (f' := (4, [some (.ref 62), some (.int x1), some (.int x2)], [(.ref 78)])) (h' := (107, I, J, mm_rf rv sp rr w nw)) 2 rfl ?_
  refine mm_T.seg (f' := (10, [some (.ref 62), some (.int x1), some (.int x2)], [(.int ((8 * x2) + x1)), (.ref 78)])) (h' := (107, I, J, mm_rf rv sp rr w nw)) 5 rfl ?_
  by_cases h519 : ((8 * x2) + x1) < 0 ∨ 56 ≤ ((8 * x2) + x1).toNatClampNeg
  · rw [if_pos h519] at e; cases e
  rw [if_neg h519] at e
  refine mm_T.guard (c := ((8 * x2) + x1) < 0 ∨ 56 ≤ ((8 * x2) + x1).toNatClampNeg) (y := ((11, [some (.ref 62), some (.int x1), some (.int x2)], [(.int (I 78 ((8 * x2) + x1).toNatClampNeg))]), (107, I, J, mm_rf rv sp rr w nw))) (mm_gen (P := fun z => mm_stp none 258 (10, [some (.ref 62), some (.int x1), some (.int x2)], [(.int z), (.ref 78)]) (107, I, J, mm_rf rv sp rr w nw) = if z < 0 ∨ 56 ≤ z.toNatClampNeg then none else some (.inl ((11, [some (.ref 62), some (.int x1), some (.int x2)], [(.int (I 78 z.toNatClampNeg))]), (107, I, J, mm_rf rv sp rr w nw)))) ((8 * x2) + x1) (fun z => rfl)) h519 ?_
  cases e
  exact mm_T.ret rfl ⟨rfl, rfl⟩
set_option maxRecDepth 100000 in
set_option maxHeartbeats 4000000 in
theorem tX12_columnBy (d : Nat) (x1 : Int32) (x2 : Int32) (x3 : Int32) (x4 : Int32) (I : Nat → Nat → Int32) (J : Nat → Nat → Int64) (rv sp rr w nw : Nat) (out : Int32) (e : fX12_columnBy x1 x2 x3 x4 I = some out) : mm_T none (d + 1) 259 (mm_ent 259 [(.ref 62), (.int x1), (.int x2), (.int x3), (.int x4)]) (107, I, J, mm_rf rv sp rr w nw) (fun v h => v = some (.int out) ∧ h = (107, I, J, mm_rf rv sp rr w nw)) := by
  unfold fX12_columnBy at e
  refine mm_T.seg (f' := (8, [some (.ref 62), some (.int x1), some (.int x2), some (.int x3), some (.int x4)], [(.int x2), (.int x1), (.ref 62), (.int x4), (.int (x1 + x3))])) (h' := (107, I, J, mm_rf rv sp rr w nw)) 7 rfl ?_
  obtain ⟨o520, eo520, e⟩ := mm_bind e
  refine mm_T.call (t := 258) (as := [(.ref 62), (.int x1), (.int x2)]) (f' := (11, [some (.ref 62), some (.int x1), some (.int x2), some (.int x3), some (.int x4)], [(.int x4), (.int (x1 + x3))])) rfl (tX12_currentAt (d + 0) x1 x2 I J rv sp rr w nw o520 eo520) (fun v h hq => ?_)
  obtain ⟨rfl, rfl⟩ := hq
  refine mm_T.seg (f' := (19, [some (.ref 62), some (.int x1), some (.int x2), some (.int x3), some (.int x4)], [(.int ((I 62 46) - 1)), (.int ((x1 + x3) + (x4 * o520)))])) (h' := (107, I, J, mm_rf rv sp rr w nw)) 6 rfl ?_
  obtain ⟨g123, hg123⟩ : ∃ z, fX12_within ((x1 + x3) + (x4 * o520)) ((I 62 46) - 1) = z := ⟨_, rfl⟩
  try rw [hg123] at e
  refine mm_T.call (t := 238) (as := [(.int ((x1 + x3) + (x4 * o520))), (.int ((I 62 46) - 1))]) (f' := (22, [some (.ref 62), some (.int x1), some (.int x2), some (.int x3), some (.int x4)], [])) rfl (tX12_within (d + 0) ((x1 + x3) + (x4 * o520)) ((I 62 46) - 1) I J rv sp rr w nw g123 hg123) (fun v h hq => ?_)
  obtain ⟨rfl, rfl⟩ := hq
  cases e
  exact mm_T.ret rfl ⟨rfl, rfl⟩
set_option maxRecDepth 100000 in
set_option maxHeartbeats 4000000 in
theorem tX12_isIron (d : Nat) (x1 : Int32) (x2 : Int32) (I : Nat → Nat → Int32) (J : Nat → Nat → Int64) (rv sp rr w nw : Nat) (out : Int32) (e : fX12_isIron x1 x2 I = some out) : mm_T none (d + 0) 260 (mm_ent 260 [(.ref 62), (.int x1), (.int x2)]) (107, I, J, mm_rf rv sp rr w nw) (fun v h => v = some (.int out) ∧ h = (107, I, J, mm_rf rv sp rr w nw)) := by
  unfold fX12_isIron at e
  refine mm_T.seg (f' := (4, [some (.ref 62), some (.int x1), some (.int x2)], [(.ref 79)])) (h' := (107, I, J, mm_rf rv sp rr w nw)) 2 rfl ?_
  refine mm_T.seg (f' := (10, [some (.ref 62), some (.int x1), some (.int x2)], [(.int ((8 * x2) + x1)), (.ref 79)])) (h' := (107, I, J, mm_rf rv sp rr w nw)) 5 rfl ?_
  by_cases h521 : ((8 * x2) + x1) < 0 ∨ 56 ≤ ((8 * x2) + x1).toNatClampNeg
  · rw [if_pos h521] at e; cases e
  rw [if_neg h521] at e
  refine mm_T.guard (c := ((8 * x2) + x1) < 0 ∨ 56 ≤ ((8 * x2) + x1).toNatClampNeg) (y := ((11, [some (.ref 62), some (.int x1), some (.int x2)], [(.int (I 79 ((8 * x2) + x1).toNatClampNeg))]), (107, I, J, mm_rf rv sp rr w nw))) (mm_gen (P := fun z => mm_stp none 260 (10, [some (.ref 62), some (.int x1), some (.int x2)], [(.int z), (.ref 79)]) (107, I, J, mm_rf rv sp rr w nw) = if z < 0 ∨ 56 ≤ z.toNatClampNeg then none else some (.inl ((11, [some (.ref 62), some (.int x1), some (.int x2)], [(.int (I 79 z.toNatClampNeg))]), (107, I, J, mm_rf rv sp rr w nw)))) ((8 * x2) + x1) (fun z => rfl)) h521 ?_
  refine mm_T.seg (f' := (12, [some (.ref 62), some (.int x1), some (.int x2)], [(.int 1), (.int (I 79 ((8 * x2) + x1).toNatClampNeg))])) (h' := (107, I, J, mm_rf rv sp rr w nw)) 1 rfl ?_
  refine mm_T.br (c := (I 79 ((8 * x2) + x1).toNatClampNeg) = 1) (a := ((15, [some (.ref 62), some (.int x1), some (.int x2)], []), (107, I, J, mm_rf rv sp rr w nw))) (b := ((19, [some (.ref 62), some (.int x1), some (.int x2)], []), (107, I, J, mm_rf rv sp rr w nw))) rfl (fun h522 => ?_) (fun h522 => ?_)
  · rw [if_pos h522] at e
    refine mm_T.seg (f' := (20, [some (.ref 62), some (.int x1), some (.int x2)], [(.int 1)])) (h' := (107, I, J, mm_rf rv sp rr w nw)) 2 rfl ?_
    cases e
    exact mm_T.ret rfl ⟨rfl, rfl⟩
  · rw [if_neg h522] at e
    refine mm_T.seg (f' := (20, [some (.ref 62), some (.int x1), some (.int x2)], [(.int 0)])) (h' := (107, I, J, mm_rf rv sp rr w nw)) 1 rfl ?_
    cases e
    exact mm_T.ret rfl ⟨rfl, rfl⟩
set_option maxRecDepth 100000 in
set_option maxHeartbeats 4000000 in
theorem tbX12_goStroke_J185 (d : Nat) (y8 : Int32) (y9 : Int32) (I : Nat → Nat → Int32) (J : Nat → Nat → Int64) (rv sp rr w nw : Nat) (out : Int32 × (Nat → Nat → Int32)) (e : fX12_goStroke_J185 y8 y9 I = some out) : mm_T none (d + 3) 261 (185, [none, none, none, none, none, none, none, none, some (.int y8), some (.int y9)], []) (107, I, J, mm_rf rv sp rr w nw) (fun v h => v = some (.int out.1) ∧ h = (107, out.2, J, mm_rf rv sp rr w nw)) := by
  unfold fX12_goStroke_J185 at e
  refine mm_T.seg (f' := (187, [none, none, none, none, none, none, none, none, some (.int y8), some (.int y9)], [(.int y8)])) (h' := (107, I, J, mm_rf rv sp rr w nw)) 1 rfl ?_
  obtain ⟨g124, hg124⟩ : ∃ z, fX12_truth y8 = z := ⟨_, rfl⟩
  try rw [hg124] at e
  refine mm_T.call (t := 236) (as := [(.int y8)]) (f' := (190, [none, none, none, none, none, none, none, none, some (.int y8), some (.int y9)], [])) rfl (tX12_truth (d + 2) y8 I J rv sp rr w nw g124 hg124) (fun v h hq => ?_)
  obtain ⟨rfl, rfl⟩ := hq
  refine mm_T.seg (f' := (193, [none, none, none, none, none, none, none, none, some (.int y8), some (.int y9)], [(.int y9), (.int 2), (.int g124)])) (h' := (107, I, J, mm_rf rv sp rr w nw)) 2 rfl ?_
  obtain ⟨g125, hg125⟩ : ∃ z, fX12_truth y9 = z := ⟨_, rfl⟩
  try rw [hg125] at e
  refine mm_T.call (t := 236) (as := [(.int y9)]) (f' := (196, [none, none, none, none, none, none, none, none, some (.int y8), some (.int y9)], [(.int 2), (.int g124)])) rfl (tX12_truth (d + 2) y9 I J rv sp rr w nw g125 hg125) (fun v h hq => ?_)
  obtain ⟨rfl, rfl⟩ := hq
  refine mm_T.seg (f' := (198, [none, none, none, none, none, none, none, none, some (.int y8), some (.int y9)], [(.int (g124 + (2 * g125)))])) (h' := (107, I, J, mm_rf rv sp rr w nw)) 2 rfl ?_
  cases e
  exact mm_T.ret rfl ⟨rfl, rfl⟩
set_option maxRecDepth 100000 in
set_option maxHeartbeats 4000000 in
theorem tbX12_goStroke_J151 (d : Nat) (y1 : Int32) (y8 : Int32) (y9 : Int32) (u0 : Int32) (u1 : Int32) (I : Nat → Nat → Int32) (J : Nat → Nat → Int64) (rv sp rr w nw : Nat) (out : Int32 × (Nat → Nat → Int32)) (e : fX12_goStroke_J151 y1 y8 y9 u0 u1 I = some out) : mm_T none (d + 3) 261 (151, [some (.ref 62), some (.int y1), none, none, none, none, none, none, some (.int y8), some (.int y9)], [(.int u0), (.int u1), (.ref 85)]) (107, I, J, mm_rf rv sp rr w nw) (fun v h => v = some (.int out.1) ∧ h = (107, out.2, J, mm_rf rv sp rr w nw)) := by
  unfold fX12_goStroke_J151 at e
  by_cases h539 : u1 < 0 ∨ 28 ≤ u1.toNatClampNeg
  · rw [if_pos h539] at e; cases e
  rw [if_neg h539] at e
  refine mm_T.guard (y := ((152, [some (.ref 62), some (.int y1), none, none, none, none, none, none, some (.int y8), some (.int y9)], []), (107, (mm_up I 85 u1.toNatClampNeg u0), J, mm_rf rv sp rr w nw))) rfl h539 ?_
  refine mm_T.seg (f' := (154, [some (.ref 62), some (.int y1), none, none, none, none, none, none, some (.int y8), some (.int y9)], [(.int y9)])) (h' := (107, (mm_up I 85 u1.toNatClampNeg u0), J, mm_rf rv sp rr w nw)) 1 rfl ?_
  refine mm_T.br (c := y9 = 0) (a := ((185, [some (.ref 62), some (.int y1), none, none, none, none, none, none, some (.int y8), some (.int y9)], []), (107, (mm_up I 85 u1.toNatClampNeg u0), J, mm_rf rv sp rr w nw))) (b := ((157, [some (.ref 62), some (.int y1), none, none, none, none, none, none, some (.int y8), some (.int y9)], []), (107, (mm_up I 85 u1.toNatClampNeg u0), J, mm_rf rv sp rr w nw))) rfl (fun h540 => ?_) (fun h540 => ?_)
  · rw [if_pos h540] at e
    refine mm_T.mask [false, false, false, false, false, false, false, false, true, true] ?_
    exact tbX12_goStroke_J185 d y8 y9 (mm_up I 85 u1.toNatClampNeg u0) J rv sp rr w nw out e
  · rw [if_neg h540] at e
    refine mm_T.seg (f' := (161, [some (.ref 62), some (.int y1), none, none, none, none, none, none, some (.int y8), some (.int y9)], [(.ref 85)])) (h' := (107, (mm_up I 85 u1.toNatClampNeg u0), J, mm_rf rv sp rr w nw)) 2 rfl ?_
    refine mm_T.seg (f' := (165, [some (.ref 62), some (.int y1), none, none, none, none, none, none, some (.int y8), some (.int y9)], [(.int (12 + y1)), (.ref 85)])) (h' := (107, (mm_up I 85 u1.toNatClampNeg u0), J, mm_rf rv sp rr w nw)) 3 rfl ?_
    by_cases h541 : (12 + y1) < 0 ∨ 28 ≤ (12 + y1).toNatClampNeg
    · rw [if_pos h541] at e; cases e
    rw [if_neg h541] at e
    refine mm_T.guard (c := (12 + y1) < 0 ∨ 28 ≤ (12 + y1).toNatClampNeg) (y := ((166, [some (.ref 62), some (.int y1), none, none, none, none, none, none, some (.int y8), some (.int y9)], [(.int ((mm_up I 85 u1.toNatClampNeg u0) 85 (12 + y1).toNatClampNeg))]), (107, (mm_up I 85 u1.toNatClampNeg u0), J, mm_rf rv sp rr w nw))) (mm_gen (P := fun z => mm_stp none 261 (165, [some (.ref 62), some (.int y1), none, none, none, none, none, none, some (.int y8), some (.int y9)], [(.int z), (.ref 85)]) (107, (mm_up I 85 u1.toNatClampNeg u0), J, mm_rf rv sp rr w nw) = if z < 0 ∨ 28 ≤ z.toNatClampNeg then none else some (.inl ((166, [some (.ref 62), some (.int y1), none, none, none, none, none, none, some (.int y8), some (.int y9)], [(.int ((mm_up I 85 u1.toNatClampNeg u0) 85 z.toNatClampNeg))]), (107, (mm_up I 85 u1.toNatClampNeg u0), J, mm_rf rv sp rr w nw)))) (12 + y1) (fun z => rfl)) h541 ?_
    refine mm_T.seg (f' := (169, [some (.ref 62), some (.int y1), none, none, none, none, none, none, some (.int y8), some (.int y9)], [(.int 999), (.int ((mm_up I 85 u1.toNatClampNeg u0) 85 (12 + y1).toNatClampNeg))])) (h' := (107, (mm_up I 85 u1.toNatClampNeg u0), J, mm_rf rv sp rr w nw)) 1 rfl ?_
    refine mm_T.br (c := ((mm_up I 85 u1.toNatClampNeg u0) 85 (12 + y1).toNatClampNeg) < 999) (a := ((172, [some (.ref 62), some (.int y1), none, none, none, none, none, none, some (.int y8), some (.int y9)], []), (107, (mm_up I 85 u1.toNatClampNeg u0), J, mm_rf rv sp rr w nw))) (b := ((185, [some (.ref 62), some (.int y1), none, none, none, none, none, none, some (.int y8), some (.int y9)], []), (107, (mm_up I 85 u1.toNatClampNeg u0), J, mm_rf rv sp rr w nw))) rfl (fun h542 => ?_) (fun h542 => ?_)
    · rw [if_pos h542] at e
      refine mm_T.seg (f' := (176, [some (.ref 62), some (.int y1), none, none, none, none, none, none, some (.int y8), some (.int y9)], [(.ref 85)])) (h' := (107, (mm_up I 85 u1.toNatClampNeg u0), J, mm_rf rv sp rr w nw)) 2 rfl ?_
      refine mm_T.seg (f' := (181, [some (.ref 62), some (.int y1), none, none, none, none, none, none, some (.int y8), some (.int y9)], [(.int (12 + y1)), (.ref 85), (.int (12 + y1)), (.ref 85)])) (h' := (107, (mm_up I 85 u1.toNatClampNeg u0), J, mm_rf rv sp rr w nw)) 4 rfl ?_
      by_cases h543 : (12 + y1) < 0 ∨ 28 ≤ (12 + y1).toNatClampNeg
      · rw [if_pos h543] at e; cases e
      rw [if_neg h543] at e
      refine mm_T.guard (c := (12 + y1) < 0 ∨ 28 ≤ (12 + y1).toNatClampNeg) (y := ((182, [some (.ref 62), some (.int y1), none, none, none, none, none, none, some (.int y8), some (.int y9)], [(.int ((mm_up I 85 u1.toNatClampNeg u0) 85 (12 + y1).toNatClampNeg)), (.int (12 + y1)), (.ref 85)]), (107, (mm_up I 85 u1.toNatClampNeg u0), J, mm_rf rv sp rr w nw))) (mm_gen (P := fun z => mm_stp none 261 (181, [some (.ref 62), some (.int y1), none, none, none, none, none, none, some (.int y8), some (.int y9)], [(.int z), (.ref 85), (.int z), (.ref 85)]) (107, (mm_up I 85 u1.toNatClampNeg u0), J, mm_rf rv sp rr w nw) = if z < 0 ∨ 28 ≤ z.toNatClampNeg then none else some (.inl ((182, [some (.ref 62), some (.int y1), none, none, none, none, none, none, some (.int y8), some (.int y9)], [(.int ((mm_up I 85 u1.toNatClampNeg u0) 85 z.toNatClampNeg)), (.int z), (.ref 85)]), (107, (mm_up I 85 u1.toNatClampNeg u0), J, mm_rf rv sp rr w nw)))) (12 + y1) (fun z => rfl)) h543 ?_
      refine mm_T.seg (f' := (184, [some (.ref 62), some (.int y1), none, none, none, none, none, none, some (.int y8), some (.int y9)], [(.int (((mm_up I 85 u1.toNatClampNeg u0) 85 (12 + y1).toNatClampNeg) + 1)), (.int (12 + y1)), (.ref 85)])) (h' := (107, (mm_up I 85 u1.toNatClampNeg u0), J, mm_rf rv sp rr w nw)) 2 rfl ?_
      by_cases h544 : (12 + y1) < 0 ∨ 28 ≤ (12 + y1).toNatClampNeg
      · rw [if_pos h544] at e; cases e
      rw [if_neg h544] at e
      refine mm_T.guard (c := (12 + y1) < 0 ∨ 28 ≤ (12 + y1).toNatClampNeg) (y := ((185, [some (.ref 62), some (.int y1), none, none, none, none, none, none, some (.int y8), some (.int y9)], []), (107, (mm_up (mm_up I 85 u1.toNatClampNeg u0) 85 (12 + y1).toNatClampNeg (((mm_up I 85 u1.toNatClampNeg u0) 85 (12 + y1).toNatClampNeg) + 1)), J, mm_rf rv sp rr w nw))) (mm_gen (P := fun z => mm_stp none 261 (184, [some (.ref 62), some (.int y1), none, none, none, none, none, none, some (.int y8), some (.int y9)], [(.int (((mm_up I 85 u1.toNatClampNeg u0) 85 z.toNatClampNeg) + 1)), (.int z), (.ref 85)]) (107, (mm_up I 85 u1.toNatClampNeg u0), J, mm_rf rv sp rr w nw) = if z < 0 ∨ 28 ≤ z.toNatClampNeg then none else some (.inl ((185, [some (.ref 62), some (.int y1), none, none, none, none, none, none, some (.int y8), some (.int y9)], []), (107, (mm_up (mm_up I 85 u1.toNatClampNeg u0) 85 z.toNatClampNeg (((mm_up I 85 u1.toNatClampNeg u0) 85 z.toNatClampNeg) + 1)), J, mm_rf rv sp rr w nw)))) (12 + y1) (fun z => rfl)) h544 ?_
      refine mm_T.mask [false, false, false, false, false, false, false, false, true, true] ?_
      exact tbX12_goStroke_J185 d y8 y9 (mm_up (mm_up I 85 u1.toNatClampNeg u0) 85 (12 + y1).toNatClampNeg (((mm_up I 85 u1.toNatClampNeg u0) 85 (12 + y1).toNatClampNeg) + 1)) J rv sp rr w nw out e
    · rw [if_neg h542] at e
      refine mm_T.mask [false, false, false, false, false, false, false, false, true, true] ?_
      exact tbX12_goStroke_J185 d y8 y9 (mm_up I 85 u1.toNatClampNeg u0) J rv sp rr w nw out e
set_option maxRecDepth 100000 in
set_option maxHeartbeats 4000000 in
theorem tbX12_goStroke_J130 (d : Nat) (y1 : Int32) (y7 : Int32) (y8 : Int32) (u0 : Int32) (I : Nat → Nat → Int32) (J : Nat → Nat → Int64) (rv sp rr w nw : Nat) (out : Int32 × (Nat → Nat → Int32)) (e : fX12_goStroke_J130 y1 y7 y8 u0 I = some out) : mm_T none (d + 3) 261 (130, [some (.ref 62), some (.int y1), none, none, none, none, none, some (.int y7), some (.int y8), none], [(.int u0)]) (107, I, J, mm_rf rv sp rr w nw) (fun v h => v = some (.int out.1) ∧ h = (107, out.2, J, mm_rf rv sp rr w nw)) := by
  unfold fX12_goStroke_J130 at e
  refine mm_T.seg (f' := (136, [some (.ref 62), some (.int y1), none, none, none, none, none, some (.int y7), some (.int y8), some (.int u0)], [(.ref 85)])) (h' := (107, I, J, mm_rf rv sp rr w nw)) 3 rfl ?_
  refine mm_T.seg (f' := (142, [some (.ref 62), some (.int y1), none, none, none, none, none, some (.int y7), some (.int y8), some (.int u0)], [(.int u0), (.int (8 + y1)), (.ref 85)])) (h' := (107, I, J, mm_rf rv sp rr w nw)) 4 rfl ?_
  refine mm_T.br (c := u0 = 0) (a := ((149, [some (.ref 62), some (.int y1), none, none, none, none, none, some (.int y7), some (.int y8), some (.int u0)], [(.int (8 + y1)), (.ref 85)]), (107, I, J, mm_rf rv sp rr w nw))) (b := ((145, [some (.ref 62), some (.int y1), none, none, none, none, none, some (.int y7), some (.int y8), some (.int u0)], [(.int (8 + y1)), (.ref 85)]), (107, I, J, mm_rf rv sp rr w nw))) rfl (fun h538 => ?_) (fun h538 => ?_)
  · rw [if_pos h538] at e
    refine mm_T.seg (f' := (151, [some (.ref 62), some (.int y1), none, none, none, none, none, some (.int y7), some (.int y8), some (.int u0)], [(.int y7), (.int (8 + y1)), (.ref 85)])) (h' := (107, I, J, mm_rf rv sp rr w nw)) 1 rfl ?_
    refine mm_T.mask [true, true, false, false, false, false, false, false, true, true] ?_
    exact tbX12_goStroke_J151 d y1 y8 u0 y7 (8 + y1) I J rv sp rr w nw out e
  · rw [if_neg h538] at e
    refine mm_T.seg (f' := (151, [some (.ref 62), some (.int y1), none, none, none, none, none, some (.int y7), some (.int y8), some (.int u0)], [(.int 0), (.int (8 + y1)), (.ref 85)])) (h' := (107, I, J, mm_rf rv sp rr w nw)) 2 rfl ?_
    refine mm_T.mask [true, true, false, false, false, false, false, false, true, true] ?_
    exact tbX12_goStroke_J151 d y1 y8 u0 0 (8 + y1) I J rv sp rr w nw out e
set_option maxRecDepth 100000 in
set_option maxHeartbeats 4000000 in
theorem tbX12_goStroke_J112 (d : Nat) (y1 : Int32) (y8 : Int32) (u0 : Int32) (I : Nat → Nat → Int32) (J : Nat → Nat → Int64) (rv sp rr w nw : Nat) (out : Int32 × (Nat → Nat → Int32)) (e : fX12_goStroke_J112 y1 y8 u0 I = some out) : mm_T none (d + 3) 261 (112, [some (.ref 62), some (.int y1), none, none, none, none, none, none, some (.int y8), none], [(.int u0)]) (107, I, J, mm_rf rv sp rr w nw) (fun v h => v = some (.int out.1) ∧ h = (107, out.2, J, mm_rf rv sp rr w nw)) := by
  unfold fX12_goStroke_J112 at e
  refine mm_T.seg (f' := (120, [some (.ref 62), some (.int y1), none, none, none, none, none, some (.int u0), some (.int y8), none], [(.ref 82), (.int u0)])) (h' := (107, I, J, mm_rf rv sp rr w nw)) 4 rfl ?_
  refine mm_T.seg (f' := (121, [some (.ref 62), some (.int y1), none, none, none, none, none, some (.int u0), some (.int y8), none], [(.int y1), (.ref 82), (.int u0)])) (h' := (107, I, J, mm_rf rv sp rr w nw)) 1 rfl ?_
  by_cases h536 : y1 < 0 ∨ 4 ≤ y1.toNatClampNeg
  · rw [if_pos h536] at e; cases e
  rw [if_neg h536] at e
  refine mm_T.guard (y := ((122, [some (.ref 62), some (.int y1), none, none, none, none, none, some (.int u0), some (.int y8), none], [(.int (I 82 y1.toNatClampNeg)), (.int u0)]), (107, I, J, mm_rf rv sp rr w nw))) rfl h536 ?_
  refine mm_T.br (c := (I 82 y1.toNatClampNeg) < u0) (a := ((125, [some (.ref 62), some (.int y1), none, none, none, none, none, some (.int u0), some (.int y8), none], []), (107, I, J, mm_rf rv sp rr w nw))) (b := ((129, [some (.ref 62), some (.int y1), none, none, none, none, none, some (.int u0), some (.int y8), none], []), (107, I, J, mm_rf rv sp rr w nw))) rfl (fun h537 => ?_) (fun h537 => ?_)
  · rw [if_pos h537] at e
    refine mm_T.seg (f' := (130, [some (.ref 62), some (.int y1), none, none, none, none, none, some (.int u0), some (.int y8), none], [(.int 1)])) (h' := (107, I, J, mm_rf rv sp rr w nw)) 2 rfl ?_
    refine mm_T.mask [true, true, false, false, false, false, false, true, true, false] ?_
    exact tbX12_goStroke_J130 d y1 u0 y8 1 I J rv sp rr w nw out e
  · rw [if_neg h537] at e
    refine mm_T.seg (f' := (130, [some (.ref 62), some (.int y1), none, none, none, none, none, some (.int u0), some (.int y8), none], [(.int 0)])) (h' := (107, I, J, mm_rf rv sp rr w nw)) 1 rfl ?_
    refine mm_T.mask [true, true, false, false, false, false, false, true, true, false] ?_
    exact tbX12_goStroke_J130 d y1 u0 y8 0 I J rv sp rr w nw out e
set_option maxRecDepth 100000 in
set_option maxHeartbeats 4000000 in
theorem tbX12_goStroke_J85 (d : Nat) (y1 : Int32) (y7 : Int32) (y8 : Int32) (I : Nat → Nat → Int32) (J : Nat → Nat → Int64) (rv sp rr w nw : Nat) (out : Int32 × (Nat → Nat → Int32)) (e : fX12_goStroke_J85 y1 y7 y8 I = some out) : mm_T none (d + 3) 261 (85, [some (.ref 62), some (.int y1), none, none, none, none, none, some (.int y7), some (.int y8), none], []) (107, I, J, mm_rf rv sp rr w nw) (fun v h => v = some (.int out.1) ∧ h = (107, out.2, J, mm_rf rv sp rr w nw)) := by
  unfold fX12_goStroke_J85 at e
  refine mm_T.seg (f' := (89, [some (.ref 62), some (.int y1), none, none, none, none, none, some (.int y7), some (.int y8), none], [(.ref 85)])) (h' := (107, I, J, mm_rf rv sp rr w nw)) 2 rfl ?_
  refine mm_T.seg (f' := (94, [some (.ref 62), some (.int y1), none, none, none, none, none, some (.int y7), some (.int y8), none], [(.int (16 + y1)), (.ref 85), (.int (16 + y1)), (.ref 85)])) (h' := (107, I, J, mm_rf rv sp rr w nw)) 4 rfl ?_
  by_cases h533 : (16 + y1) < 0 ∨ 28 ≤ (16 + y1).toNatClampNeg
  · rw [if_pos h533] at e; cases e
  rw [if_neg h533] at e
  refine mm_T.guard (c := (16 + y1) < 0 ∨ 28 ≤ (16 + y1).toNatClampNeg) (y := ((95, [some (.ref 62), some (.int y1), none, none, none, none, none, some (.int y7), some (.int y8), none], [(.int (I 85 (16 + y1).toNatClampNeg)), (.int (16 + y1)), (.ref 85)]), (107, I, J, mm_rf rv sp rr w nw))) (mm_gen (P := fun z => mm_stp none 261 (94, [some (.ref 62), some (.int y1), none, none, none, none, none, some (.int y7), some (.int y8), none], [(.int z), (.ref 85), (.int z), (.ref 85)]) (107, I, J, mm_rf rv sp rr w nw) = if z < 0 ∨ 28 ≤ z.toNatClampNeg then none else some (.inl ((95, [some (.ref 62), some (.int y1), none, none, none, none, none, some (.int y7), some (.int y8), none], [(.int (I 85 z.toNatClampNeg)), (.int z), (.ref 85)]), (107, I, J, mm_rf rv sp rr w nw)))) (16 + y1) (fun z => rfl)) h533 ?_
  refine mm_T.seg (f' := (97, [some (.ref 62), some (.int y1), none, none, none, none, none, some (.int y7), some (.int y8), none], [(.int ((I 85 (16 + y1).toNatClampNeg) + 1)), (.int (16 + y1)), (.ref 85)])) (h' := (107, I, J, mm_rf rv sp rr w nw)) 2 rfl ?_
  by_cases h534 : (16 + y1) < 0 ∨ 28 ≤ (16 + y1).toNatClampNeg
  · rw [if_pos h534] at e; cases e
  rw [if_neg h534] at e
  refine mm_T.guard (c := (16 + y1) < 0 ∨ 28 ≤ (16 + y1).toNatClampNeg) (y := ((98, [some (.ref 62), some (.int y1), none, none, none, none, none, some (.int y7), some (.int y8), none], []), (107, (mm_up I 85 (16 + y1).toNatClampNeg ((I 85 (16 + y1).toNatClampNeg) + 1)), J, mm_rf rv sp rr w nw))) (mm_gen (P := fun z => mm_stp none 261 (97, [some (.ref 62), some (.int y1), none, none, none, none, none, some (.int y7), some (.int y8), none], [(.int ((I 85 z.toNatClampNeg) + 1)), (.int z), (.ref 85)]) (107, I, J, mm_rf rv sp rr w nw) = if z < 0 ∨ 28 ≤ z.toNatClampNeg then none else some (.inl ((98, [some (.ref 62), some (.int y1), none, none, none, none, none, some (.int y7), some (.int y8), none], []), (107, (mm_up I 85 z.toNatClampNeg ((I 85 z.toNatClampNeg) + 1)), J, mm_rf rv sp rr w nw)))) (16 + y1) (fun z => rfl)) h534 ?_
  refine mm_T.seg (f' := (102, [some (.ref 62), some (.int y1), none, none, none, none, none, some (.int y7), some (.int y8), none], [(.int 99), (.int y7)])) (h' := (107, (mm_up I 85 (16 + y1).toNatClampNeg ((I 85 (16 + y1).toNatClampNeg) + 1)), J, mm_rf rv sp rr w nw)) 2 rfl ?_
  refine mm_T.br (c := 99 < y7) (a := ((105, [some (.ref 62), some (.int y1), none, none, none, none, none, some (.int y7), some (.int y8), none], []), (107, (mm_up I 85 (16 + y1).toNatClampNeg ((I 85 (16 + y1).toNatClampNeg) + 1)), J, mm_rf rv sp rr w nw))) (b := ((110, [some (.ref 62), some (.int y1), none, none, none, none, none, some (.int y7), some (.int y8), none], []), (107, (mm_up I 85 (16 + y1).toNatClampNeg ((I 85 (16 + y1).toNatClampNeg) + 1)), J, mm_rf rv sp rr w nw))) rfl (fun h535 => ?_) (fun h535 => ?_)
  · rw [if_pos h535] at e
    refine mm_T.seg (f' := (112, [some (.ref 62), some (.int y1), none, none, none, none, none, some (.int y7), some (.int y8), none], [(.int 99)])) (h' := (107, (mm_up I 85 (16 + y1).toNatClampNeg ((I 85 (16 + y1).toNatClampNeg) + 1)), J, mm_rf rv sp rr w nw)) 2 rfl ?_
    refine mm_T.mask [true, true, false, false, false, false, false, false, true, false] ?_
    exact tbX12_goStroke_J112 d y1 y8 99 (mm_up I 85 (16 + y1).toNatClampNeg ((I 85 (16 + y1).toNatClampNeg) + 1)) J rv sp rr w nw out e
  · rw [if_neg h535] at e
    refine mm_T.seg (f' := (112, [some (.ref 62), some (.int y1), none, none, none, none, none, some (.int y7), some (.int y8), none], [(.int y7)])) (h' := (107, (mm_up I 85 (16 + y1).toNatClampNeg ((I 85 (16 + y1).toNatClampNeg) + 1)), J, mm_rf rv sp rr w nw)) 1 rfl ?_
    refine mm_T.mask [true, true, false, false, false, false, false, false, true, false] ?_
    exact tbX12_goStroke_J112 d y1 y8 y7 (mm_up I 85 (16 + y1).toNatClampNeg ((I 85 (16 + y1).toNatClampNeg) + 1)) J rv sp rr w nw out e
set_option maxRecDepth 100000 in
set_option maxHeartbeats 4000000 in
theorem tX12_goStroke (d n : Nat) (x1 : Int32) (x2 : Int32) (x3 : Int32) (x4 : Int32) (I : Nat → Nat → Int32) (J : Nat → Nat → Int64) (rv sp rr w nw : Nat) (out : Int32 × (Nat → Nat → Int32)) (e : fX12_goStroke n x1 x2 x3 x4 I = some out) : mm_T none (d + 3) 261 (mm_ent 261 [(.ref 62), (.int x1), (.int x2), (.int x3), (.int x4)]) (107, I, J, mm_rf rv sp rr w nw) (fun v h => v = some (.int out.1) ∧ h = (107, out.2, J, mm_rf rv sp rr w nw)) := by
  unfold fX12_goStroke at e
  refine mm_T.seg (f' := (4, [some (.ref 62), some (.int x1), some (.int x2), some (.int x3), some (.int x4), none, none, none, none, none], [(.ref 85)])) (h' := (107, I, J, mm_rf rv sp rr w nw)) 2 rfl ?_
  refine mm_T.seg (f' := (7, [some (.ref 62), some (.int x1), some (.int x2), some (.int x3), some (.int x4), none, none, none, none, none], [(.int (4 + x1)), (.ref 85)])) (h' := (107, I, J, mm_rf rv sp rr w nw)) 3 rfl ?_
  by_cases h523 : (4 + x1) < 0 ∨ 28 ≤ (4 + x1).toNatClampNeg
  · rw [if_pos h523] at e; cases e
  rw [if_neg h523] at e
  refine mm_T.guard (c := (4 + x1) < 0 ∨ 28 ≤ (4 + x1).toNatClampNeg) (y := ((8, [some (.ref 62), some (.int x1), some (.int x2), some (.int x3), some (.int x4), none, none, none, none, none], [(.int (I 85 (4 + x1).toNatClampNeg))]), (107, I, J, mm_rf rv sp rr w nw))) (mm_gen (P := fun z => mm_stp none 261 (7, [some (.ref 62), some (.int x1), some (.int x2), some (.int x3), some (.int x4), none, none, none, none, none], [(.int z), (.ref 85)]) (107, I, J, mm_rf rv sp rr w nw) = if z < 0 ∨ 28 ≤ z.toNatClampNeg then none else some (.inl ((8, [some (.ref 62), some (.int x1), some (.int x2), some (.int x3), some (.int x4), none, none, none, none, none], [(.int (I 85 z.toNatClampNeg))]), (107, I, J, mm_rf rv sp rr w nw)))) (4 + x1) (fun z => rfl)) h523 ?_
  refine mm_T.seg (f' := (17, [some (.ref 62), some (.int x1), some (.int x2), some (.int x3), some (.int x4), some (.int ((I 85 (4 + x1).toNatClampNeg) + x3)), none, none, none, none], [(.ref 85), (.ref 62)])) (h' := (107, I, J, mm_rf rv sp rr w nw)) 6 rfl ?_
  refine mm_T.seg (f' := (18, [some (.ref 62), some (.int x1), some (.int x2), some (.int x3), some (.int x4), some (.int ((I 85 (4 + x1).toNatClampNeg) + x3)), none, none, none, none], [(.int x1), (.ref 85), (.ref 62)])) (h' := (107, I, J, mm_rf rv sp rr w nw)) 1 rfl ?_
  by_cases h524 : x1 < 0 ∨ 28 ≤ x1.toNatClampNeg
  · rw [if_pos h524] at e; cases e
  rw [if_neg h524] at e
  refine mm_T.guard (y := ((19, [some (.ref 62), some (.int x1), some (.int x2), some (.int x3), some (.int x4), some (.int ((I 85 (4 + x1).toNatClampNeg) + x3)), none, none, none, none], [(.int (I 85 x1.toNatClampNeg)), (.ref 62)]), (107, I, J, mm_rf rv sp rr w nw))) rfl h524 ?_
  refine mm_T.seg (f' := (23, [some (.ref 62), some (.int x1), some (.int x2), some (.int x3), some (.int x4), some (.int ((I 85 (4 + x1).toNatClampNeg) + x3)), none, none, none, none], [(.ref 85), (.int (I 85 x1.toNatClampNeg)), (.ref 62)])) (h' := (107, I, J, mm_rf rv sp rr w nw)) 2 rfl ?_
  refine mm_T.seg (f' := (26, [some (.ref 62), some (.int x1), some (.int x2), some (.int x3), some (.int x4), some (.int ((I 85 (4 + x1).toNatClampNeg) + x3)), none, none, none, none], [(.int (4 + x1)), (.ref 85), (.int (I 85 x1.toNatClampNeg)), (.ref 62)])) (h' := (107, I, J, mm_rf rv sp rr w nw)) 3 rfl ?_
  by_cases h525 : (4 + x1) < 0 ∨ 28 ≤ (4 + x1).toNatClampNeg
  · rw [if_pos h525] at e; cases e
  rw [if_neg h525] at e
  refine mm_T.guard (c := (4 + x1) < 0 ∨ 28 ≤ (4 + x1).toNatClampNeg) (y := ((27, [some (.ref 62), some (.int x1), some (.int x2), some (.int x3), some (.int x4), some (.int ((I 85 (4 + x1).toNatClampNeg) + x3)), none, none, none, none], [(.int (I 85 (4 + x1).toNatClampNeg)), (.int (I 85 x1.toNatClampNeg)), (.ref 62)]), (107, I, J, mm_rf rv sp rr w nw))) (mm_gen (P := fun z => mm_stp none 261 (26, [some (.ref 62), some (.int x1), some (.int x2), some (.int x3), some (.int x4), some (.int ((I 85 z.toNatClampNeg) + x3)), none, none, none, none], [(.int z), (.ref 85), (.int (I 85 x1.toNatClampNeg)), (.ref 62)]) (107, I, J, mm_rf rv sp rr w nw) = if z < 0 ∨ 28 ≤ z.toNatClampNeg then none else some (.inl ((27, [some (.ref 62), some (.int x1), some (.int x2), some (.int x3), some (.int x4), some (.int ((I 85 z.toNatClampNeg) + x3)), none, none, none, none], [(.int (I 85 z.toNatClampNeg)), (.int (I 85 x1.toNatClampNeg)), (.ref 62)]), (107, I, J, mm_rf rv sp rr w nw)))) (4 + x1) (fun z => rfl)) h525 ?_
  refine mm_T.seg (f' := (30, [some (.ref 62), some (.int x1), some (.int x2), some (.int x3), some (.int x4), some (.int ((I 85 (4 + x1).toNatClampNeg) + x3)), none, none, none, none], [(.int x4), (.int x2), (.int (I 85 (4 + x1).toNatClampNeg)), (.int (I 85 x1.toNatClampNeg)), (.ref 62)])) (h' := (107, I, J, mm_rf rv sp rr w nw)) 2 rfl ?_
  obtain ⟨o526, eo526, e⟩ := mm_bind e
  refine mm_T.call (t := 259) (as := [(.ref 62), (.int (I 85 x1.toNatClampNeg)), (.int (I 85 (4 + x1).toNatClampNeg)), (.int x2), (.int x4)]) (f' := (33, [some (.ref 62), some (.int x1), some (.int x2), some (.int x3), some (.int x4), some (.int ((I 85 (4 + x1).toNatClampNeg) + x3)), none, none, none, none], [])) rfl (tX12_columnBy (d + 1) (I 85 x1.toNatClampNeg) (I 85 (4 + x1).toNatClampNeg) x2 x4 I J rv sp rr w nw o526 eo526) (fun v h hq => ?_)
  obtain ⟨rfl, rfl⟩ := hq
  refine mm_T.seg (f' := (39, [some (.ref 62), some (.int x1), some (.int x2), some (.int x3), some (.int x4), some (.int ((I 85 (4 + x1).toNatClampNeg) + x3)), some (.int o526), none, none, none], [(.ref 85)])) (h' := (107, I, J, mm_rf rv sp rr w nw)) 3 rfl ?_
  refine mm_T.seg (f' := (43, [some (.ref 62), some (.int x1), some (.int x2), some (.int x3), some (.int x4), some (.int ((I 85 (4 + x1).toNatClampNeg) + x3)), some (.int o526), none, none, none], [(.int (8 + x1)), (.ref 85)])) (h' := (107, I, J, mm_rf rv sp rr w nw)) 3 rfl ?_
  by_cases h527 : (8 + x1) < 0 ∨ 28 ≤ (8 + x1).toNatClampNeg
  · rw [if_pos h527] at e; cases e
  rw [if_neg h527] at e
  refine mm_T.guard (c := (8 + x1) < 0 ∨ 28 ≤ (8 + x1).toNatClampNeg) (y := ((44, [some (.ref 62), some (.int x1), some (.int x2), some (.int x3), some (.int x4), some (.int ((I 85 (4 + x1).toNatClampNeg) + x3)), some (.int o526), none, none, none], [(.int (I 85 (8 + x1).toNatClampNeg))]), (107, I, J, mm_rf rv sp rr w nw))) (mm_gen (P := fun z => mm_stp none 261 (43, [some (.ref 62), some (.int x1), some (.int x2), some (.int x3), some (.int x4), some (.int ((I 85 (4 + x1).toNatClampNeg) + x3)), some (.int o526), none, none, none], [(.int z), (.ref 85)]) (107, I, J, mm_rf rv sp rr w nw) = if z < 0 ∨ 28 ≤ z.toNatClampNeg then none else some (.inl ((44, [some (.ref 62), some (.int x1), some (.int x2), some (.int x3), some (.int x4), some (.int ((I 85 (4 + x1).toNatClampNeg) + x3)), some (.int o526), none, none, none], [(.int (I 85 z.toNatClampNeg))]), (107, I, J, mm_rf rv sp rr w nw)))) (8 + x1) (fun z => rfl)) h527 ?_
  refine mm_T.seg (f' := (46, [some (.ref 62), some (.int x1), some (.int x2), some (.int x3), some (.int x4), some (.int ((I 85 (4 + x1).toNatClampNeg) + x3)), some (.int o526), none, none, none], [(.int x1), (.ref 62), (.int (I 85 (8 + x1).toNatClampNeg))])) (h' := (107, I, J, mm_rf rv sp rr w nw)) 2 rfl ?_
  obtain ⟨o528, eo528, e⟩ := mm_bind e
  refine mm_T.call (t := 241) (as := [(.ref 62), (.int x1)]) (f' := (49, [some (.ref 62), some (.int x1), some (.int x2), some (.int x3), some (.int x4), some (.int ((I 85 (4 + x1).toNatClampNeg) + x3)), some (.int o526), none, none, none], [(.int (I 85 (8 + x1).toNatClampNeg))])) rfl (tX12_hotterOf (d + 0) n x1 I J rv sp rr w nw o528 eo528) (fun v h hq => ?_)
  obtain ⟨rfl, rfl⟩ := hq
  refine mm_T.seg (f' := (57, [some (.ref 62), some (.int x1), some (.int x2), some (.int x3), some (.int x4), some (.int ((I 85 (4 + x1).toNatClampNeg) + x3)), some (.int o526), some (.int ((I 85 (8 + x1).toNatClampNeg) + o528.1)), none, none], [(.int ((I 85 (4 + x1).toNatClampNeg) + x3)), (.int o526), (.ref 62)])) (h' := (107, o528.2, J, mm_rf rv sp rr w nw)) 5 rfl ?_
  obtain ⟨o529, eo529, e⟩ := mm_bind e
  refine mm_T.call (t := 260) (as := [(.ref 62), (.int o526), (.int ((I 85 (4 + x1).toNatClampNeg) + x3))]) (f' := (60, [some (.ref 62), some (.int x1), some (.int x2), some (.int x3), some (.int x4), some (.int ((I 85 (4 + x1).toNatClampNeg) + x3)), some (.int o526), some (.int ((I 85 (8 + x1).toNatClampNeg) + o528.1)), none, none], [])) rfl (tX12_isIron (d + 2) o526 ((I 85 (4 + x1).toNatClampNeg) + x3) o528.2 J rv sp rr w nw o529 eo529) (fun v h hq => ?_)
  obtain ⟨rfl, rfl⟩ := hq
  refine mm_T.seg (f' := (64, [some (.ref 62), some (.int x1), some (.int x2), some (.int x3), some (.int x4), some (.int ((I 85 (4 + x1).toNatClampNeg) + x3)), some (.int o526), some (.int ((I 85 (8 + x1).toNatClampNeg) + o528.1)), some (.int o529), none], [(.int o529)])) (h' := (107, o528.2, J, mm_rf rv sp rr w nw)) 2 rfl ?_
  refine mm_T.br (c := o529 = 0) (a := ((67, [some (.ref 62), some (.int x1), some (.int x2), some (.int x3), some (.int x4), some (.int ((I 85 (4 + x1).toNatClampNeg) + x3)), some (.int o526), some (.int ((I 85 (8 + x1).toNatClampNeg) + o528.1)), some (.int o529), none], []), (107, o528.2, J, mm_rf rv sp rr w nw))) (b := ((85, [some (.ref 62), some (.int x1), some (.int x2), some (.int x3), some (.int x4), some (.int ((I 85 (4 + x1).toNatClampNeg) + x3)), some (.int o526), some (.int ((I 85 (8 + x1).toNatClampNeg) + o528.1)), some (.int o529), none], []), (107, o528.2, J, mm_rf rv sp rr w nw))) rfl (fun h530 => ?_) (fun h530 => ?_)
  · rw [if_pos h530] at e
    refine mm_T.seg (f' := (71, [some (.ref 62), some (.int x1), some (.int x2), some (.int x3), some (.int x4), some (.int ((I 85 (4 + x1).toNatClampNeg) + x3)), some (.int o526), some (.int ((I 85 (8 + x1).toNatClampNeg) + o528.1)), some (.int o529), none], [(.ref 85)])) (h' := (107, o528.2, J, mm_rf rv sp rr w nw)) 2 rfl ?_
    refine mm_T.seg (f' := (74, [some (.ref 62), some (.int x1), some (.int x2), some (.int x3), some (.int x4), some (.int ((I 85 (4 + x1).toNatClampNeg) + x3)), some (.int o526), some (.int ((I 85 (8 + x1).toNatClampNeg) + o528.1)), some (.int o529), none], [(.int o526), (.int x1), (.ref 85)])) (h' := (107, o528.2, J, mm_rf rv sp rr w nw)) 2 rfl ?_
    by_cases h531 : x1 < 0 ∨ 28 ≤ x1.toNatClampNeg
    · rw [if_pos h531] at e; cases e
    rw [if_neg h531] at e
    refine mm_T.guard (y := ((75, [some (.ref 62), some (.int x1), some (.int x2), some (.int x3), some (.int x4), some (.int ((I 85 (4 + x1).toNatClampNeg) + x3)), some (.int o526), some (.int ((I 85 (8 + x1).toNatClampNeg) + o528.1)), some (.int o529), none], []), (107, (mm_up o528.2 85 x1.toNatClampNeg o526), J, mm_rf rv sp rr w nw))) rfl h531 ?_
    refine mm_T.seg (f' := (79, [some (.ref 62), some (.int x1), some (.int x2), some (.int x3), some (.int x4), some (.int ((I 85 (4 + x1).toNatClampNeg) + x3)), some (.int o526), some (.int ((I 85 (8 + x1).toNatClampNeg) + o528.1)), some (.int o529), none], [(.ref 85)])) (h' := (107, (mm_up o528.2 85 x1.toNatClampNeg o526), J, mm_rf rv sp rr w nw)) 2 rfl ?_
    refine mm_T.seg (f' := (84, [some (.ref 62), some (.int x1), some (.int x2), some (.int x3), some (.int x4), some (.int ((I 85 (4 + x1).toNatClampNeg) + x3)), some (.int o526), some (.int ((I 85 (8 + x1).toNatClampNeg) + o528.1)), some (.int o529), none], [(.int ((I 85 (4 + x1).toNatClampNeg) + x3)), (.int (4 + x1)), (.ref 85)])) (h' := (107, (mm_up o528.2 85 x1.toNatClampNeg o526), J, mm_rf rv sp rr w nw)) 4 rfl ?_
    by_cases h532 : (4 + x1) < 0 ∨ 28 ≤ (4 + x1).toNatClampNeg
    · rw [if_pos h532] at e; cases e
    rw [if_neg h532] at e
    refine mm_T.guard (c := (4 + x1) < 0 ∨ 28 ≤ (4 + x1).toNatClampNeg) (y := ((85, [some (.ref 62), some (.int x1), some (.int x2), some (.int x3), some (.int x4), some (.int ((I 85 (4 + x1).toNatClampNeg) + x3)), some (.int o526), some (.int ((I 85 (8 + x1).toNatClampNeg) + o528.1)), some (.int o529), none], []), (107, (mm_up (mm_up o528.2 85 x1.toNatClampNeg o526) 85 (4 + x1).toNatClampNeg ((I 85 (4 + x1).toNatClampNeg) + x3)), J, mm_rf rv sp rr w nw))) (mm_gen (P := fun z => mm_stp none 261 (84, [some (.ref 62), some (.int x1), some (.int x2), some (.int x3), some (.int x4), some (.int ((I 85 z.toNatClampNeg) + x3)), some (.int o526), some (.int ((I 85 (8 + x1).toNatClampNeg) + o528.1)), some (.int o529), none], [(.int ((I 85 z.toNatClampNeg) + x3)), (.int z), (.ref 85)]) (107, (mm_up o528.2 85 x1.toNatClampNeg o526), J, mm_rf rv sp rr w nw) = if z < 0 ∨ 28 ≤ z.toNatClampNeg then none else some (.inl ((85, [some (.ref 62), some (.int x1), some (.int x2), some (.int x3), some (.int x4), some (.int ((I 85 z.toNatClampNeg) + x3)), some (.int o526), some (.int ((I 85 (8 + x1).toNatClampNeg) + o528.1)), some (.int o529), none], []), (107, (mm_up (mm_up o528.2 85 x1.toNatClampNeg o526) 85 z.toNatClampNeg ((I 85 z.toNatClampNeg) + x3)), J, mm_rf rv sp rr w nw)))) (4 + x1) (fun z => rfl)) h532 ?_
    refine mm_T.mask [true, true, false, false, false, false, false, true, true, false] ?_
    exact tbX12_goStroke_J85 d x1 ((I 85 (8 + x1).toNatClampNeg) + o528.1) o529 (mm_up (mm_up o528.2 85 x1.toNatClampNeg o526) 85 (4 + x1).toNatClampNeg ((I 85 (4 + x1).toNatClampNeg) + x3)) J rv sp rr w nw out e
  · rw [if_neg h530] at e
    refine mm_T.mask [true, true, false, false, false, false, false, true, true, false] ?_
    exact tbX12_goStroke_J85 d x1 ((I 85 (8 + x1).toNatClampNeg) + o528.1) o529 o528.2 J rv sp rr w nw out e
set_option maxRecDepth 100000 in
set_option maxHeartbeats 4000000 in
theorem tlX12_loadsAt_L4 (d : Nat) (Q : Option Value → mm_H → Prop) : ∀ (n : Nat) (y1 : Int32) (y2 : Int32) (y3 : Int32) (I : Nat → Nat → Int32) (J : Nat → Nat → Int64) (rv sp rr w nw : Nat), ∀ (out : Int32), fX12_loadsAt_L4 n y1 y2 y3 I = some out → mm_T none (d + 1) 262 (44, [none, none, some (.int out), none], []) (107, I, J, mm_rf rv sp rr w nw) Q → mm_T none (d + 1) 262 (4, [some (.ref 62), some (.int y1), some (.int y2), some (.int y3)], []) (107, I, J, mm_rf rv sp rr w nw) Q := by
  intro n
  induction n with
  | zero =>
    intro y1 y2 y3 I J rv sp rr w nw out e k
    rw [fX12_loadsAt_L4] at e; cases e
  | succ n ih =>
    intro y1 y2 y3 I J rv sp rr w nw out e k
    rw [fX12_loadsAt_L4] at e
    refine mm_T.seg (f' := (9, [some (.ref 62), some (.int y1), some (.int y2), some (.int y3)], [(.int (I 62 49)), (.int y3)])) (h' := (107, I, J, mm_rf rv sp rr w nw)) 3 rfl ?_
    refine mm_T.br (c := y3 < (I 62 49)) (a := ((12, [some (.ref 62), some (.int y1), some (.int y2), some (.int y3)], []), (107, I, J, mm_rf rv sp rr w nw))) (b := ((44, [some (.ref 62), some (.int y1), some (.int y2), some (.int y3)], []), (107, I, J, mm_rf rv sp rr w nw))) rfl (fun h548 => ?_) (fun h548 => ?_)
    · rw [if_pos h548] at e
      refine mm_T.seg (f' := (17, [some (.ref 62), some (.int y1), some (.int y2), some (.int y3)], [(.ref 85), (.int y2)])) (h' := (107, I, J, mm_rf rv sp rr w nw)) 3 rfl ?_
      refine mm_T.seg (f' := (21, [some (.ref 62), some (.int y1), some (.int y2), some (.int y3)], [(.int (20 + y3)), (.ref 85), (.int y2)])) (h' := (107, I, J, mm_rf rv sp rr w nw)) 3 rfl ?_
      by_cases h549 : (20 + y3) < 0 ∨ 28 ≤ (20 + y3).toNatClampNeg
      · rw [if_pos h549] at e; cases e
      rw [if_neg h549] at e
      refine mm_T.guard (c := (20 + y3) < 0 ∨ 28 ≤ (20 + y3).toNatClampNeg) (y := ((22, [some (.ref 62), some (.int y1), some (.int y2), some (.int y3)], [(.int (I 85 (20 + y3).toNatClampNeg)), (.int y2)]), (107, I, J, mm_rf rv sp rr w nw))) (mm_gen (P := fun z => mm_stp none 262 (21, [some (.ref 62), some (.int y1), some (.int y2), some (.int y3)], [(.int z), (.ref 85), (.int y2)]) (107, I, J, mm_rf rv sp rr w nw) = if z < 0 ∨ 28 ≤ z.toNatClampNeg then none else some (.inl ((22, [some (.ref 62), some (.int y1), some (.int y2), some (.int y3)], [(.int (I 85 z.toNatClampNeg)), (.int y2)]), (107, I, J, mm_rf rv sp rr w nw)))) (20 + y3) (fun z => rfl)) h549 ?_
      refine mm_T.seg (f' := (23, [some (.ref 62), some (.int y1), some (.int y2), some (.int y3)], [(.int y1), (.int (I 85 (20 + y3).toNatClampNeg)), (.int y2)])) (h' := (107, I, J, mm_rf rv sp rr w nw)) 1 rfl ?_
      refine mm_T.br (c := (I 85 (20 + y3).toNatClampNeg) = y1) (a := ((26, [some (.ref 62), some (.int y1), some (.int y2), some (.int y3)], [(.int y2)]), (107, I, J, mm_rf rv sp rr w nw))) (b := ((30, [some (.ref 62), some (.int y1), some (.int y2), some (.int y3)], [(.int y2)]), (107, I, J, mm_rf rv sp rr w nw))) rfl (fun h550 => ?_) (fun h550 => ?_)
      · rw [if_pos h550] at e
        refine mm_T.seg (f' := (31, [some (.ref 62), some (.int y1), some (.int y2), some (.int y3)], [(.int 1), (.int y2)])) (h' := (107, I, J, mm_rf rv sp rr w nw)) 2 rfl ?_
        obtain ⟨g128, hg128⟩ : ∃ z, fX12_truth 1 = z := ⟨_, rfl⟩
        try rw [hg128] at e
        refine mm_T.call (t := 236) (as := [(.int 1)]) (f' := (34, [some (.ref 62), some (.int y1), some (.int y2), some (.int y3)], [(.int y2)])) rfl (tX12_truth (d + 0) 1 I J rv sp rr w nw g128 hg128) (fun v h hq => ?_)
        obtain ⟨rfl, rfl⟩ := hq
        refine mm_T.seg (f' := (4, [some (.ref 62), some (.int y1), some (.int (y2 ||| (g128 <<< (y3 &&& 31)))), some (.int (y3 + 1))], [])) (h' := (107, I, J, mm_rf rv sp rr w nw)) 6 rfl ?_
        refine mm_T.mask [true, true, true, true] ?_
        exact ih y1 (y2 ||| (g128 <<< (y3 &&& 31))) (y3 + 1) I J rv sp rr w nw out e k
      · rw [if_neg h550] at e
        refine mm_T.seg (f' := (31, [some (.ref 62), some (.int y1), some (.int y2), some (.int y3)], [(.int 0), (.int y2)])) (h' := (107, I, J, mm_rf rv sp rr w nw)) 1 rfl ?_
        obtain ⟨g129, hg129⟩ : ∃ z, fX12_truth 0 = z := ⟨_, rfl⟩
        try rw [hg129] at e
        refine mm_T.call (t := 236) (as := [(.int 0)]) (f' := (34, [some (.ref 62), some (.int y1), some (.int y2), some (.int y3)], [(.int y2)])) rfl (tX12_truth (d + 0) 0 I J rv sp rr w nw g129 hg129) (fun v h hq => ?_)
        obtain ⟨rfl, rfl⟩ := hq
        refine mm_T.seg (f' := (4, [some (.ref 62), some (.int y1), some (.int (y2 ||| (g129 <<< (y3 &&& 31)))), some (.int (y3 + 1))], [])) (h' := (107, I, J, mm_rf rv sp rr w nw)) 6 rfl ?_
        refine mm_T.mask [true, true, true, true] ?_
        exact ih y1 (y2 ||| (g129 <<< (y3 &&& 31))) (y3 + 1) I J rv sp rr w nw out e k
    · rw [if_neg h548] at e
      cases e
      refine mm_T.mask [false, false, true, false] ?_
      exact k
set_option maxRecDepth 100000 in
set_option maxHeartbeats 4000000 in
theorem tX12_loadsAt (d n : Nat) (x1 : Int32) (I : Nat → Nat → Int32) (J : Nat → Nat → Int64) (rv sp rr w nw : Nat) (out : Int32) (e : fX12_loadsAt n x1 I = some out) : mm_T none (d + 1) 262 (mm_ent 262 [(.ref 62), (.int x1)]) (107, I, J, mm_rf rv sp rr w nw) (fun v h => v = some (.int out) ∧ h = (107, I, J, mm_rf rv sp rr w nw)) := by
  unfold fX12_loadsAt at e
  refine mm_T.seg (f' := (4, [some (.ref 62), some (.int x1), some (.int 0), some (.int 0)], [])) (h' := (107, I, J, mm_rf rv sp rr w nw)) 4 rfl ?_
  refine mm_T.mask [true, true, true, true] ?_
  obtain ⟨o551, eo551, e⟩ := mm_bind e
  refine tlX12_loadsAt_L4 d _ n x1 0 0 I J rv sp rr w nw o551 eo551 ?_
  refine mm_T.seg (f' := (45, [none, none, some (.int o551), none], [(.int o551)])) (h' := (107, I, J, mm_rf rv sp rr w nw)) 1 rfl ?_
  cases e
  exact mm_T.ret rfl ⟨rfl, rfl⟩
set_option maxRecDepth 100000 in
set_option maxHeartbeats 4000000 in
theorem tX12_board (d n : Nat) (x1 : Int32) (x2 : Int32) (I : Nat → Nat → Int32) (J : Nat → Nat → Int64) (rv sp rr w nw : Nat) (out : Int32 × (Nat → Nat → Int32)) (e : fX12_board n x1 x2 I = some out) : mm_T none (d + 2) 263 (mm_ent 263 [(.ref 62), (.int x1), (.int x2)]) (107, I, J, mm_rf rv sp rr w nw) (fun v h => v = some (.int out.1) ∧ h = (107, out.2, J, mm_rf rv sp rr w nw)) := by
  unfold fX12_board at e
  refine mm_T.seg (f' := (2, [some (.ref 62), some (.int x1), some (.int x2)], [(.int x1), (.ref 62)])) (h' := (107, I, J, mm_rf rv sp rr w nw)) 2 rfl ?_
  obtain ⟨o552, eo552, e⟩ := mm_bind e
  refine mm_T.call (t := 253) (as := [(.ref 62), (.int x1)]) (f' := (5, [some (.ref 62), some (.int x1), some (.int x2)], [])) rfl (tX12_isBoard (d + 0) x1 I J rv sp rr w nw o552 eo552) (fun v h hq => ?_)
  obtain ⟨rfl, rfl⟩ := hq
  refine mm_T.br (c := o552 = 0) (a := ((8, [some (.ref 62), some (.int x1), some (.int x2)], []), (107, I, J, mm_rf rv sp rr w nw))) (b := ((10, [some (.ref 62), some (.int x1), some (.int x2)], []), (107, I, J, mm_rf rv sp rr w nw))) rfl (fun h553 => ?_) (fun h553 => ?_)
  · rw [if_pos h553] at e
    refine mm_T.seg (f' := (9, [some (.ref 62), some (.int x1), some (.int x2)], [(.int (-1))])) (h' := (107, I, J, mm_rf rv sp rr w nw)) 1 rfl ?_
    cases e
    exact mm_T.ret rfl ⟨rfl, rfl⟩
  · rw [if_neg h553] at e
    refine mm_T.seg (f' := (11, [some (.ref 62), some (.int x1), some (.int x2)], [(.ref 62)])) (h' := (107, I, J, mm_rf rv sp rr w nw)) 1 rfl ?_
    obtain ⟨o554, eo554, e⟩ := mm_bind e
    refine mm_T.call (t := 256) (as := [(.ref 62)]) (f' := (14, [some (.ref 62), some (.int x1), some (.int x2)], [])) rfl (tX12_fill (d + 1) n I J rv sp rr w nw o554 eo554) (fun v h hq => ?_)
    obtain ⟨rfl, rfl⟩ := hq
    refine mm_T.seg (f' := (15, [some (.ref 62), some (.int x1), some (.int x2)], [(.int x2)])) (h' := (107, o554, J, mm_rf rv sp rr w nw)) 1 rfl ?_
    by_cases h555 : x2 = 0
    · rw [if_pos h555] at e
      refine mm_T.step (f' := (64, [some (.ref 62), some (.int x1), some (.int x2)], [])) (h' := (107, o554, J, mm_rf rv sp rr w nw)) (by first | (rw [h555]; rfl) | exact absurd h555 (by decide)) ?_
      refine mm_T.seg (f' := (68, [some (.ref 62), some (.int x1), some (.int x2)], [(.ref 85)])) (h' := (107, o554, J, mm_rf rv sp rr w nw)) 2 rfl ?_
      refine mm_T.seg (f' := (69, [some (.ref 62), some (.int x1), some (.int x2)], [(.int x1), (.ref 85)])) (h' := (107, o554, J, mm_rf rv sp rr w nw)) 1 rfl ?_
      by_cases h556 : x1 < 0 ∨ 28 ≤ x1.toNatClampNeg
      · rw [if_pos h556] at e; cases e
      rw [if_neg h556] at e
      refine mm_T.guard (y := ((70, [some (.ref 62), some (.int x1), some (.int x2)], [(.int (o554 85 x1.toNatClampNeg))]), (107, o554, J, mm_rf rv sp rr w nw))) rfl h556 ?_
      cases e
      exact mm_T.ret rfl ⟨rfl, rfl⟩
    · rw [if_neg h555] at e
      by_cases h557 : x2 = 1
      · rw [if_pos h557] at e
        refine mm_T.step (f' := (71, [some (.ref 62), some (.int x1), some (.int x2)], [])) (h' := (107, o554, J, mm_rf rv sp rr w nw)) (by first | (rw [h557]; rfl) | exact absurd h557 (by decide)) ?_
        refine mm_T.seg (f' := (75, [some (.ref 62), some (.int x1), some (.int x2)], [(.ref 85)])) (h' := (107, o554, J, mm_rf rv sp rr w nw)) 2 rfl ?_
        refine mm_T.seg (f' := (78, [some (.ref 62), some (.int x1), some (.int x2)], [(.int (4 + x1)), (.ref 85)])) (h' := (107, o554, J, mm_rf rv sp rr w nw)) 3 rfl ?_
        by_cases h558 : (4 + x1) < 0 ∨ 28 ≤ (4 + x1).toNatClampNeg
        · rw [if_pos h558] at e; cases e
        rw [if_neg h558] at e
        refine mm_T.guard (c := (4 + x1) < 0 ∨ 28 ≤ (4 + x1).toNatClampNeg) (y := ((79, [some (.ref 62), some (.int x1), some (.int x2)], [(.int (o554 85 (4 + x1).toNatClampNeg))]), (107, o554, J, mm_rf rv sp rr w nw))) (mm_gen (P := fun z => mm_stp none 263 (78, [some (.ref 62), some (.int x1), some (.int x2)], [(.int z), (.ref 85)]) (107, o554, J, mm_rf rv sp rr w nw) = if z < 0 ∨ 28 ≤ z.toNatClampNeg then none else some (.inl ((79, [some (.ref 62), some (.int x1), some (.int x2)], [(.int (o554 85 z.toNatClampNeg))]), (107, o554, J, mm_rf rv sp rr w nw)))) (4 + x1) (fun z => rfl)) h558 ?_
        cases e
        exact mm_T.ret rfl ⟨rfl, rfl⟩
      · rw [if_neg h557] at e
        by_cases h559 : x2 = 2
        · rw [if_pos h559] at e
          refine mm_T.step (f' := (80, [some (.ref 62), some (.int x1), some (.int x2)], [])) (h' := (107, o554, J, mm_rf rv sp rr w nw)) (by first | (rw [h559]; rfl) | exact absurd h559 (by decide)) ?_
          refine mm_T.seg (f' := (84, [some (.ref 62), some (.int x1), some (.int x2)], [(.ref 85)])) (h' := (107, o554, J, mm_rf rv sp rr w nw)) 2 rfl ?_
          refine mm_T.seg (f' := (88, [some (.ref 62), some (.int x1), some (.int x2)], [(.int (8 + x1)), (.ref 85)])) (h' := (107, o554, J, mm_rf rv sp rr w nw)) 3 rfl ?_
          by_cases h560 : (8 + x1) < 0 ∨ 28 ≤ (8 + x1).toNatClampNeg
          · rw [if_pos h560] at e; cases e
          rw [if_neg h560] at e
          refine mm_T.guard (c := (8 + x1) < 0 ∨ 28 ≤ (8 + x1).toNatClampNeg) (y := ((89, [some (.ref 62), some (.int x1), some (.int x2)], [(.int (o554 85 (8 + x1).toNatClampNeg))]), (107, o554, J, mm_rf rv sp rr w nw))) (mm_gen (P := fun z => mm_stp none 263 (88, [some (.ref 62), some (.int x1), some (.int x2)], [(.int z), (.ref 85)]) (107, o554, J, mm_rf rv sp rr w nw) = if z < 0 ∨ 28 ≤ z.toNatClampNeg then none else some (.inl ((89, [some (.ref 62), some (.int x1), some (.int x2)], [(.int (o554 85 z.toNatClampNeg))]), (107, o554, J, mm_rf rv sp rr w nw)))) (8 + x1) (fun z => rfl)) h560 ?_
          cases e
          exact mm_T.ret rfl ⟨rfl, rfl⟩
        · rw [if_neg h559] at e
          by_cases h561 : x2 = 3
          · rw [if_pos h561] at e
            refine mm_T.step (f' := (90, [some (.ref 62), some (.int x1), some (.int x2)], [])) (h' := (107, o554, J, mm_rf rv sp rr w nw)) (by first | (rw [h561]; rfl) | exact absurd h561 (by decide)) ?_
            refine mm_T.seg (f' := (94, [some (.ref 62), some (.int x1), some (.int x2)], [(.ref 85)])) (h' := (107, o554, J, mm_rf rv sp rr w nw)) 2 rfl ?_
            refine mm_T.seg (f' := (98, [some (.ref 62), some (.int x1), some (.int x2)], [(.int (12 + x1)), (.ref 85)])) (h' := (107, o554, J, mm_rf rv sp rr w nw)) 3 rfl ?_
            by_cases h562 : (12 + x1) < 0 ∨ 28 ≤ (12 + x1).toNatClampNeg
            · rw [if_pos h562] at e; cases e
            rw [if_neg h562] at e
            refine mm_T.guard (c := (12 + x1) < 0 ∨ 28 ≤ (12 + x1).toNatClampNeg) (y := ((99, [some (.ref 62), some (.int x1), some (.int x2)], [(.int (o554 85 (12 + x1).toNatClampNeg))]), (107, o554, J, mm_rf rv sp rr w nw))) (mm_gen (P := fun z => mm_stp none 263 (98, [some (.ref 62), some (.int x1), some (.int x2)], [(.int z), (.ref 85)]) (107, o554, J, mm_rf rv sp rr w nw) = if z < 0 ∨ 28 ≤ z.toNatClampNeg then none else some (.inl ((99, [some (.ref 62), some (.int x1), some (.int x2)], [(.int (o554 85 z.toNatClampNeg))]), (107, o554, J, mm_rf rv sp rr w nw)))) (12 + x1) (fun z => rfl)) h562 ?_
            cases e
            exact mm_T.ret rfl ⟨rfl, rfl⟩
          · rw [if_neg h561] at e
            by_cases h563 : x2 = 4
            · rw [if_pos h563] at e
              refine mm_T.step (f' := (100, [some (.ref 62), some (.int x1), some (.int x2)], [])) (h' := (107, o554, J, mm_rf rv sp rr w nw)) (by first | (rw [h563]; rfl) | exact absurd h563 (by decide)) ?_
              refine mm_T.seg (f' := (104, [some (.ref 62), some (.int x1), some (.int x2)], [(.ref 85)])) (h' := (107, o554, J, mm_rf rv sp rr w nw)) 2 rfl ?_
              refine mm_T.seg (f' := (108, [some (.ref 62), some (.int x1), some (.int x2)], [(.int (16 + x1)), (.ref 85)])) (h' := (107, o554, J, mm_rf rv sp rr w nw)) 3 rfl ?_
              by_cases h564 : (16 + x1) < 0 ∨ 28 ≤ (16 + x1).toNatClampNeg
              · rw [if_pos h564] at e; cases e
              rw [if_neg h564] at e
              refine mm_T.guard (c := (16 + x1) < 0 ∨ 28 ≤ (16 + x1).toNatClampNeg) (y := ((109, [some (.ref 62), some (.int x1), some (.int x2)], [(.int (o554 85 (16 + x1).toNatClampNeg))]), (107, o554, J, mm_rf rv sp rr w nw))) (mm_gen (P := fun z => mm_stp none 263 (108, [some (.ref 62), some (.int x1), some (.int x2)], [(.int z), (.ref 85)]) (107, o554, J, mm_rf rv sp rr w nw) = if z < 0 ∨ 28 ≤ z.toNatClampNeg then none else some (.inl ((109, [some (.ref 62), some (.int x1), some (.int x2)], [(.int (o554 85 z.toNatClampNeg))]), (107, o554, J, mm_rf rv sp rr w nw)))) (16 + x1) (fun z => rfl)) h564 ?_
              cases e
              exact mm_T.ret rfl ⟨rfl, rfl⟩
            · rw [if_neg h563] at e
              by_cases h565 : x2 = 5
              · rw [if_pos h565] at e
                refine mm_T.step (f' := (110, [some (.ref 62), some (.int x1), some (.int x2)], [])) (h' := (107, o554, J, mm_rf rv sp rr w nw)) (by first | (rw [h565]; rfl) | exact absurd h565 (by decide)) ?_
                refine mm_T.seg (f' := (114, [some (.ref 62), some (.int x1), some (.int x2)], [(.ref 80)])) (h' := (107, o554, J, mm_rf rv sp rr w nw)) 2 rfl ?_
                refine mm_T.seg (f' := (115, [some (.ref 62), some (.int x1), some (.int x2)], [(.int x1), (.ref 80)])) (h' := (107, o554, J, mm_rf rv sp rr w nw)) 1 rfl ?_
                by_cases h566 : x1 < 0 ∨ 4 ≤ x1.toNatClampNeg
                · rw [if_pos h566] at e; cases e
                rw [if_neg h566] at e
                refine mm_T.guard (y := ((116, [some (.ref 62), some (.int x1), some (.int x2)], [(.int (o554 80 x1.toNatClampNeg))]), (107, o554, J, mm_rf rv sp rr w nw))) rfl h566 ?_
                cases e
                exact mm_T.ret rfl ⟨rfl, rfl⟩
              · rw [if_neg h565] at e
                by_cases h567 : x2 = 6
                · rw [if_pos h567] at e
                  refine mm_T.step (f' := (117, [some (.ref 62), some (.int x1), some (.int x2)], [])) (h' := (107, o554, J, mm_rf rv sp rr w nw)) (by first | (rw [h567]; rfl) | exact absurd h567 (by decide)) ?_
                  refine mm_T.seg (f' := (121, [some (.ref 62), some (.int x1), some (.int x2)], [(.ref 82)])) (h' := (107, o554, J, mm_rf rv sp rr w nw)) 2 rfl ?_
                  refine mm_T.seg (f' := (122, [some (.ref 62), some (.int x1), some (.int x2)], [(.int x1), (.ref 82)])) (h' := (107, o554, J, mm_rf rv sp rr w nw)) 1 rfl ?_
                  by_cases h568 : x1 < 0 ∨ 4 ≤ x1.toNatClampNeg
                  · rw [if_pos h568] at e; cases e
                  rw [if_neg h568] at e
                  refine mm_T.guard (y := ((123, [some (.ref 62), some (.int x1), some (.int x2)], [(.int (o554 82 x1.toNatClampNeg))]), (107, o554, J, mm_rf rv sp rr w nw))) rfl h568 ?_
                  cases e
                  exact mm_T.ret rfl ⟨rfl, rfl⟩
                · rw [if_neg h567] at e
                  by_cases h569 : x2 = 7
                  · rw [if_pos h569] at e
                    refine mm_T.step (f' := (124, [some (.ref 62), some (.int x1), some (.int x2)], [])) (h' := (107, o554, J, mm_rf rv sp rr w nw)) (by first | (rw [h569]; rfl) | exact absurd h569 (by decide)) ?_
                    refine mm_T.seg (f' := (126, [some (.ref 62), some (.int x1), some (.int x2)], [(.int x1), (.ref 62)])) (h' := (107, o554, J, mm_rf rv sp rr w nw)) 2 rfl ?_
                    obtain ⟨o570, eo570, e⟩ := mm_bind e
                    refine mm_T.call (t := 240) (as := [(.ref 62), (.int x1)]) (f' := (129, [some (.ref 62), some (.int x1), some (.int x2)], [])) rfl (tX12_burdenOf (d + 1) n x1 o554 J rv sp rr w nw o570 eo570) (fun v h hq => ?_)
                    obtain ⟨rfl, rfl⟩ := hq
                    cases e
                    exact mm_T.ret rfl ⟨rfl, rfl⟩
                  · rw [if_neg h569] at e
                    by_cases h571 : x2 = 8
                    · rw [if_pos h571] at e
                      refine mm_T.step (f' := (130, [some (.ref 62), some (.int x1), some (.int x2)], [])) (h' := (107, o554, J, mm_rf rv sp rr w nw)) (by first | (rw [h571]; rfl) | exact absurd h571 (by decide)) ?_
                      refine mm_T.seg (f' := (132, [some (.ref 62), some (.int x1), some (.int x2)], [(.int x1), (.ref 62)])) (h' := (107, o554, J, mm_rf rv sp rr w nw)) 2 rfl ?_
                      obtain ⟨o572, eo572, e⟩ := mm_bind e
                      refine mm_T.call (t := 262) (as := [(.ref 62), (.int x1)]) (f' := (135, [some (.ref 62), some (.int x1), some (.int x2)], [])) rfl (tX12_loadsAt (d + 0) n x1 o554 J rv sp rr w nw o572 eo572) (fun v h hq => ?_)
                      obtain ⟨rfl, rfl⟩ := hq
                      cases e
                      exact mm_T.ret rfl ⟨rfl, rfl⟩
                    · rw [if_neg h571] at e
                      refine mm_T.tabs (lo := 0) (hi := 8) (y := ((136, [some (.ref 62), some (.int x1), some (.int x2)], []), (107, o554, J, mm_rf rv sp rr w nw))) rfl (mm_swo (0) (8) x2 [0, 1, 2, 3, 4, 5, 6, 7, 8] (by decide) (by intro z hz; simp only [List.mem_cons, List.not_mem_nil, or_false] at hz; rcases hz with rfl | rfl | rfl | rfl | rfl | rfl | rfl | rfl | rfl <;> first | assumption | decide)) ?_
                      refine mm_T.seg (f' := (137, [some (.ref 62), some (.int x1), some (.int x2)], [(.int (-1))])) (h' := (107, o554, J, mm_rf rv sp rr w nw)) 1 rfl ?_
                      cases e
                      exact mm_T.ret rfl ⟨rfl, rfl⟩
set_option maxRecDepth 100000 in
set_option maxHeartbeats 4000000 in
theorem tX12_load (d : Nat) (x1 : Int32) (x2 : Int32) (I : Nat → Nat → Int32) (J : Nat → Nat → Int64) (rv sp rr w nw : Nat) (out : Int32) (e : fX12_load x1 x2 I = some out) : mm_T none (d + 2) 264 (mm_ent 264 [(.ref 62), (.int x1), (.int x2)]) (107, I, J, mm_rf rv sp rr w nw) (fun v h => v = some (.int out) ∧ h = (107, I, J, mm_rf rv sp rr w nw)) := by
  unfold fX12_load at e
  refine mm_T.seg (f' := (2, [some (.ref 62), some (.int x1), some (.int x2)], [(.int x1), (.ref 62)])) (h' := (107, I, J, mm_rf rv sp rr w nw)) 2 rfl ?_
  obtain ⟨o573, eo573, e⟩ := mm_bind e
  refine mm_T.call (t := 254) (as := [(.ref 62), (.int x1)]) (f' := (5, [some (.ref 62), some (.int x1), some (.int x2)], [])) rfl (tX12_isLoad (d + 0) x1 I J rv sp rr w nw o573 eo573) (fun v h hq => ?_)
  obtain ⟨rfl, rfl⟩ := hq
  refine mm_T.br (c := o573 = 0) (a := ((17, [some (.ref 62), some (.int x1), some (.int x2)], []), (107, I, J, mm_rf rv sp rr w nw))) (b := ((8, [some (.ref 62), some (.int x1), some (.int x2)], []), (107, I, J, mm_rf rv sp rr w nw))) rfl (fun h574 => ?_) (fun h574 => ?_)
  · rw [if_pos h574] at e
    refine mm_T.seg (f' := (44, [some (.ref 62), some (.int x1), some (.int x2)], [(.int (-3))])) (h' := (107, I, J, mm_rf rv sp rr w nw)) 2 rfl ?_
    cases e
    exact mm_T.ret rfl ⟨rfl, rfl⟩
  · rw [if_neg h574] at e
    refine mm_T.seg (f' := (11, [some (.ref 62), some (.int x1), some (.int x2)], [(.int 1), (.int 0), (.int x2)])) (h' := (107, I, J, mm_rf rv sp rr w nw)) 3 rfl ?_
    obtain ⟨g130, hg130⟩ : ∃ z, fX12_isIn x2 0 1 = z := ⟨_, rfl⟩
    try rw [hg130] at e
    refine mm_T.call (t := 252) (as := [(.int x2), (.int 0), (.int 1)]) (f' := (14, [some (.ref 62), some (.int x1), some (.int x2)], [])) rfl (tX12_isIn (d + 1) x2 0 1 I J rv sp rr w nw g130 hg130) (fun v h hq => ?_)
    obtain ⟨rfl, rfl⟩ := hq
    refine mm_T.br (c := g130 = 0) (a := ((17, [some (.ref 62), some (.int x1), some (.int x2)], []), (107, I, J, mm_rf rv sp rr w nw))) (b := ((22, [some (.ref 62), some (.int x1), some (.int x2)], []), (107, I, J, mm_rf rv sp rr w nw))) rfl (fun h575 => ?_) (fun h575 => ?_)
    · rw [if_pos h575] at e
      refine mm_T.seg (f' := (44, [some (.ref 62), some (.int x1), some (.int x2)], [(.int (-3))])) (h' := (107, I, J, mm_rf rv sp rr w nw)) 2 rfl ?_
      cases e
      exact mm_T.ret rfl ⟨rfl, rfl⟩
    · rw [if_neg h575] at e
      refine mm_T.seg (f' := (23, [some (.ref 62), some (.int x1), some (.int x2)], [(.int x2)])) (h' := (107, I, J, mm_rf rv sp rr w nw)) 1 rfl ?_
      refine mm_T.br (c := x2 = 0) (a := ((26, [some (.ref 62), some (.int x1), some (.int x2)], []), (107, I, J, mm_rf rv sp rr w nw))) (b := ((35, [some (.ref 62), some (.int x1), some (.int x2)], []), (107, I, J, mm_rf rv sp rr w nw))) rfl (fun h576 => ?_) (fun h576 => ?_)
      · rw [if_pos h576] at e
        refine mm_T.seg (f' := (30, [some (.ref 62), some (.int x1), some (.int x2)], [(.ref 83)])) (h' := (107, I, J, mm_rf rv sp rr w nw)) 2 rfl ?_
        refine mm_T.seg (f' := (31, [some (.ref 62), some (.int x1), some (.int x2)], [(.int x1), (.ref 83)])) (h' := (107, I, J, mm_rf rv sp rr w nw)) 1 rfl ?_
        by_cases h577 : x1 < 0 ∨ 7 ≤ x1.toNatClampNeg
        · rw [if_pos h577] at e; cases e
        rw [if_neg h577] at e
        refine mm_T.guard (y := ((32, [some (.ref 62), some (.int x1), some (.int x2)], [(.int (I 83 x1.toNatClampNeg))]), (107, I, J, mm_rf rv sp rr w nw))) rfl h577 ?_
        refine mm_T.seg (f' := (44, [some (.ref 62), some (.int x1), some (.int x2)], [(.int (I 83 x1.toNatClampNeg))])) (h' := (107, I, J, mm_rf rv sp rr w nw)) 1 rfl ?_
        cases e
        exact mm_T.ret rfl ⟨rfl, rfl⟩
      · rw [if_neg h576] at e
        refine mm_T.seg (f' := (39, [some (.ref 62), some (.int x1), some (.int x2)], [(.ref 84)])) (h' := (107, I, J, mm_rf rv sp rr w nw)) 2 rfl ?_
        refine mm_T.seg (f' := (43, [some (.ref 62), some (.int x1), some (.int x2)], [(.int (20 + x1)), (.ref 84)])) (h' := (107, I, J, mm_rf rv sp rr w nw)) 3 rfl ?_
        by_cases h578 : (20 + x1) < 0 ∨ 28 ≤ (20 + x1).toNatClampNeg
        · rw [if_pos h578] at e; cases e
        rw [if_neg h578] at e
        refine mm_T.guard (c := (20 + x1) < 0 ∨ 28 ≤ (20 + x1).toNatClampNeg) (y := ((44, [some (.ref 62), some (.int x1), some (.int x2)], [(.int (I 84 (20 + x1).toNatClampNeg))]), (107, I, J, mm_rf rv sp rr w nw))) (mm_gen (P := fun z => mm_stp none 264 (43, [some (.ref 62), some (.int x1), some (.int x2)], [(.int z), (.ref 84)]) (107, I, J, mm_rf rv sp rr w nw) = if z < 0 ∨ 28 ≤ z.toNatClampNeg then none else some (.inl ((44, [some (.ref 62), some (.int x1), some (.int x2)], [(.int (I 84 z.toNatClampNeg))]), (107, I, J, mm_rf rv sp rr w nw)))) (20 + x1) (fun z => rfl)) h578 ?_
        cases e
        exact mm_T.ret rfl ⟨rfl, rfl⟩
