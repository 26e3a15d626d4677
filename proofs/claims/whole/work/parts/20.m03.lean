def fX12_river_L82 (n : Nat) (y1 : Int32) (I : Nat → Nat → Int32) : Option ((Nat → Nat → Int32)) := match n with
  | 0 => none
  | n + 1 => (if y1 < (I 62 18) then (if y1 < 0 ∨ 320 ≤ y1.toNatClampNeg then none else (if y1 < 0 ∨ 320 ≤ y1.toNatClampNeg then none else (if y1 < 0 ∨ 320 ≤ y1.toNatClampNeg then none else (if y1 < 0 ∨ 320 ≤ y1.toNatClampNeg then none else fX12_river_L82 n (y1 + 1) (mm_up (mm_up I 67 y1.toNatClampNeg (I 65 y1.toNatClampNeg)) 68 y1.toNatClampNeg (I 66 y1.toNatClampNeg)))))) else some I)
def fX12_river_L122 (n : Nat) (y1 : Int32) (I : Nat → Nat → Int32) : Option ((Nat → Nat → Int32)) := match n with
  | 0 => none
  | n + 1 => (if y1 < 56 then (if y1 < 0 ∨ 56 ≤ y1.toNatClampNeg then none else (if (I 72 y1.toNatClampNeg) < 0 then (if y1 < 0 ∨ 56 ≤ y1.toNatClampNeg then none else (if y1 < 0 ∨ 56 ≤ y1.toNatClampNeg then none else (if (I 73 y1.toNatClampNeg) < 0 then (if y1 < 0 ∨ 56 ≤ y1.toNatClampNeg then none else fX12_river_L122 n (y1 + 1) (mm_up (mm_up I 78 y1.toNatClampNeg 0) 79 y1.toNatClampNeg 0)) else (if y1 < 0 ∨ 56 ≤ y1.toNatClampNeg then none else fX12_river_L122 n (y1 + 1) (mm_up (mm_up I 78 y1.toNatClampNeg 0) 79 y1.toNatClampNeg 1))))) else (if y1 < 0 ∨ 56 ≤ y1.toNatClampNeg then none else (if y1 < 0 ∨ 56 ≤ y1.toNatClampNeg then none else (if y1 < 0 ∨ 56 ≤ y1.toNatClampNeg then none else (if (I 73 y1.toNatClampNeg) < 0 then (if y1 < 0 ∨ 56 ≤ y1.toNatClampNeg then none else fX12_river_L122 n (y1 + 1) (mm_up (mm_up I 78 y1.toNatClampNeg (I 72 y1.toNatClampNeg)) 79 y1.toNatClampNeg 0)) else (if y1 < 0 ∨ 56 ≤ y1.toNatClampNeg then none else fX12_river_L122 n (y1 + 1) (mm_up (mm_up I 78 y1.toNatClampNeg (I 72 y1.toNatClampNeg)) 79 y1.toNatClampNeg 1)))))))) else some I)
def fX12_river_L181 (n : Nat) (y1 : Int32) (I : Nat → Nat → Int32) : Option ((Nat → Nat → Int32)) := match n with
  | 0 => none
  | n + 1 => (if y1 < 28 then (if y1 < 0 ∨ 28 ≤ y1.toNatClampNeg then none else fX12_river_L181 n (y1 + 1) (mm_up I 84 y1.toNatClampNeg 0)) else some I)
def fX12_river_L202 (n : Nat) (y1 : Int32) (I : Nat → Nat → Int32) : Option ((Nat → Nat → Int32)) := match n with
  | 0 => none
  | n + 1 => (if y1 < (I 62 48) then (if y1 < 0 ∨ 4 ≤ y1.toNatClampNeg then none else (if y1 < 0 ∨ 4 ≤ y1.toNatClampNeg then none else (if y1 < 0 ∨ 4 ≤ y1.toNatClampNeg then none else (if y1 < 0 ∨ 4 ≤ y1.toNatClampNeg then none else (if y1 < 0 ∨ 4 ≤ y1.toNatClampNeg then none else (if y1 < 0 ∨ 4 ≤ y1.toNatClampNeg then none else (if y1 < 0 ∨ 4 ≤ y1.toNatClampNeg then none else (if y1 < 0 ∨ 28 ≤ y1.toNatClampNeg then none else fX12_river_L202 n (y1 + 1) (mm_up (mm_up (mm_up (mm_up I 80 y1.toNatClampNeg (I 74 y1.toNatClampNeg)) 81 y1.toNatClampNeg (I 75 y1.toNatClampNeg)) 82 y1.toNatClampNeg (I 76 y1.toNatClampNeg)) 84 y1.toNatClampNeg ((mm_up (mm_up I 80 y1.toNatClampNeg (I 74 y1.toNatClampNeg)) 81 y1.toNatClampNeg (I 75 y1.toNatClampNeg)) 81 y1.toNatClampNeg)))))))))) else some I)
def fX12_river_L266 (n : Nat) (y1 : Int32) (I : Nat → Nat → Int32) : Option ((Nat → Nat → Int32)) := match n with
  | 0 => none
  | n + 1 => (if y1 < (I 62 49) then (if y1 < 0 ∨ 7 ≤ y1.toNatClampNeg then none else (if y1 < 0 ∨ 7 ≤ y1.toNatClampNeg then none else (if (20 + y1) < 0 ∨ 28 ≤ (20 + y1).toNatClampNeg then none else fX12_river_L266 n (y1 + 1) (mm_up (mm_up I 83 y1.toNatClampNeg (I 77 y1.toNatClampNeg)) 84 (20 + y1).toNatClampNeg (-1))))) else some I)
def fX12_river_L335 (n : Nat) (y1 : Int32) (I : Nat → Nat → Int32) : Option ((Nat → Nat → Int32)) := match n with
  | 0 => none
  | n + 1 => (if y1 < 3 then (if y1 < 0 ∨ 3 ≤ y1.toNatClampNeg then none else fX12_river_L335 n (y1 + 1) (mm_up I 105 y1.toNatClampNeg (vp_nar .boolean 0))) else some I)
def fX12_river_J77 (n : Nat) (u0 : Int32) (I : Nat → Nat → Int32) (J : Nat → Nat → Int64) : Option (Int32 × (Nat → Nat → Int32) × (Nat → Nat → Int64)) := (fX12_river_L82 n 0 (mm_up I 62 18 u0)).bind fun o445 => (fX12_river_L122 n 0 o445).bind fun o460 => (fX12_river_L181 n 0 o460).bind fun o463 => (fX12_river_L202 n 0 o463).bind fun o473 => (fX12_river_L266 n 0 o473).bind fun o478 => (fX12_river_L335 n 0 (mm_up (mm_up (mm_up (mm_up (mm_up o478 84 27 (o478 62 45)) 62 57 0) 62 58 0) 62 75 0) 62 61 0)).bind fun o481 => some ((o481 62 48), o481, J)
def fX12_river (n : Nat) (I : Nat → Nat → Int32) (J : Nat → Nat → Int64) : Option (Int32 × (Nat → Nat → Int32) × (Nat → Nat → Int64)) := (fX12_readAll n I J).bind fun o437 => (if 0 < (o437.1 62 2) then some ((-1), o437.1, o437.2) else (if (o437.1 62 24) = 0 then (fX12_river_J77 n 0 (mm_up (mm_up (mm_up (mm_up (mm_up (mm_up o437.1 62 46 (o437.1 62 38)) 62 47 (o437.1 62 39)) 62 48 (o437.1 62 42)) 62 49 (o437.1 62 43)) 62 50 (o437.1 62 44)) 62 21 (o437.1 62 20)) o437.2) else (fX12_river_J77 n (o437.1 62 17) (mm_up (mm_up (mm_up (mm_up (mm_up (mm_up o437.1 62 46 (o437.1 62 38)) 62 47 (o437.1 62 39)) 62 48 (o437.1 62 42)) 62 49 (o437.1 62 43)) 62 50 (o437.1 62 44)) 62 21 (o437.1 62 20)) o437.2)))
set_option maxRecDepth 100000 in
set_option maxHeartbeats 4000000 in
theorem tlX12_river_L82 (d : Nat) (Q : Option Value → mm_H → Prop) : ∀ (n : Nat) (y1 : Int32) (I : Nat → Nat → Int32) (J : Nat → Nat → Int64) (rv sp rr w nw : Nat), ∀ (out : (Nat → Nat → Int32)), fX12_river_L82 n y1 I = some out → mm_T none (d + 7) 250 (120, [some (.ref 62), none], []) (107, out, J, mm_rf rv sp rr w nw) Q → mm_T none (d + 7) 250 (82, [some (.ref 62), some (.int y1)], []) (107, I, J, mm_rf rv sp rr w nw) Q := by
  intro n
  induction n with
  | zero =>
    intro y1 I J rv sp rr w nw out e k
    rw [fX12_river_L82] at e; cases e
  | succ n ih =>
    intro y1 I J rv sp rr w nw out e k
    rw [fX12_river_L82] at e
    refine mm_T.seg (f' := (87, [some (.ref 62), some (.int y1)], [(.int (I 62 18)), (.int y1)])) (h' := (107, I, J, mm_rf rv sp rr w nw)) 3 rfl ?_
    refine mm_T.br (c := y1 < (I 62 18)) (a := ((90, [some (.ref 62), some (.int y1)], []), (107, I, J, mm_rf rv sp rr w nw))) (b := ((120, [some (.ref 62), some (.int y1)], []), (107, I, J, mm_rf rv sp rr w nw))) rfl (fun h440 => ?_) (fun h440 => ?_)
    · rw [if_pos h440] at e
      refine mm_T.seg (f' := (100, [some (.ref 62), some (.int y1)], [(.int y1), (.ref 65), (.int y1), (.ref 67)])) (h' := (107, I, J, mm_rf rv sp rr w nw)) 6 rfl ?_
      by_cases h441 : y1 < 0 ∨ 320 ≤ y1.toNatClampNeg
      · rw [if_pos h441] at e; cases e
      rw [if_neg h441] at e
      refine mm_T.guard (y := ((101, [some (.ref 62), some (.int y1)], [(.int (I 65 y1.toNatClampNeg)), (.int y1), (.ref 67)]), (107, I, J, mm_rf rv sp rr w nw))) rfl h441 ?_
      by_cases h442 : y1 < 0 ∨ 320 ≤ y1.toNatClampNeg
      · rw [if_pos h442] at e; cases e
      rw [if_neg h442] at e
      refine mm_T.guard (y := ((102, [some (.ref 62), some (.int y1)], []), (107, (mm_up I 67 y1.toNatClampNeg (I 65 y1.toNatClampNeg)), J, mm_rf rv sp rr w nw))) rfl h442 ?_
      refine mm_T.seg (f' := (112, [some (.ref 62), some (.int y1)], [(.int y1), (.ref 66), (.int y1), (.ref 68)])) (h' := (107, (mm_up I 67 y1.toNatClampNeg (I 65 y1.toNatClampNeg)), J, mm_rf rv sp rr w nw)) 6 rfl ?_
      by_cases h443 : y1 < 0 ∨ 320 ≤ y1.toNatClampNeg
      · rw [if_pos h443] at e; cases e
      rw [if_neg h443] at e
      refine mm_T.guard (y := ((113, [some (.ref 62), some (.int y1)], [(.int (I 66 y1.toNatClampNeg)), (.int y1), (.ref 68)]), (107, (mm_up I 67 y1.toNatClampNeg (I 65 y1.toNatClampNeg)), J, mm_rf rv sp rr w nw))) rfl h443 ?_
      by_cases h444 : y1 < 0 ∨ 320 ≤ y1.toNatClampNeg
      · rw [if_pos h444] at e; cases e
      rw [if_neg h444] at e
      refine mm_T.guard (y := ((114, [some (.ref 62), some (.int y1)], []), (107, (mm_up (mm_up I 67 y1.toNatClampNeg (I 65 y1.toNatClampNeg)) 68 y1.toNatClampNeg (I 66 y1.toNatClampNeg)), J, mm_rf rv sp rr w nw))) rfl h444 ?_
      refine mm_T.seg (f' := (82, [some (.ref 62), some (.int (y1 + 1))], [])) (h' := (107, (mm_up (mm_up I 67 y1.toNatClampNeg (I 65 y1.toNatClampNeg)) 68 y1.toNatClampNeg (I 66 y1.toNatClampNeg)), J, mm_rf rv sp rr w nw)) 2 rfl ?_
      refine mm_T.mask [true, true] ?_
      exact ih (y1 + 1) (mm_up (mm_up I 67 y1.toNatClampNeg (I 65 y1.toNatClampNeg)) 68 y1.toNatClampNeg (I 66 y1.toNatClampNeg)) J rv sp rr w nw out e k
    · rw [if_neg h440] at e
      cases e
      refine mm_T.mask [true, false] ?_
      exact k
set_option maxRecDepth 100000 in
set_option maxHeartbeats 4000000 in
theorem tlX12_river_L122 (d : Nat) (Q : Option Value → mm_H → Prop) : ∀ (n : Nat) (y1 : Int32) (I : Nat → Nat → Int32) (J : Nat → Nat → Int64) (rv sp rr w nw : Nat), ∀ (out : (Nat → Nat → Int32)), fX12_river_L122 n y1 I = some out → mm_T none (d + 7) 250 (179, [some (.ref 62), none], []) (107, out, J, mm_rf rv sp rr w nw) Q → mm_T none (d + 7) 250 (122, [some (.ref 62), some (.int y1)], []) (107, I, J, mm_rf rv sp rr w nw) Q := by
  intro n
  induction n with
  | zero =>
    intro y1 I J rv sp rr w nw out e k
    rw [fX12_river_L122] at e; cases e
  | succ n ih =>
    intro y1 I J rv sp rr w nw out e k
    rw [fX12_river_L122] at e
    refine mm_T.seg (f' := (125, [some (.ref 62), some (.int y1)], [(.int 56), (.int y1)])) (h' := (107, I, J, mm_rf rv sp rr w nw)) 2 rfl ?_
    refine mm_T.br (c := y1 < 56) (a := ((128, [some (.ref 62), some (.int y1)], []), (107, I, J, mm_rf rv sp rr w nw))) (b := ((179, [some (.ref 62), some (.int y1)], []), (107, I, J, mm_rf rv sp rr w nw))) rfl (fun h446 => ?_) (fun h446 => ?_)
    · rw [if_pos h446] at e
      refine mm_T.seg (f' := (138, [some (.ref 62), some (.int y1)], [(.int y1), (.ref 72), (.int y1), (.ref 78)])) (h' := (107, I, J, mm_rf rv sp rr w nw)) 6 rfl ?_
      by_cases h447 : y1 < 0 ∨ 56 ≤ y1.toNatClampNeg
      · rw [if_pos h447] at e; cases e
      rw [if_neg h447] at e
      refine mm_T.guard (y := ((139, [some (.ref 62), some (.int y1)], [(.int (I 72 y1.toNatClampNeg)), (.int y1), (.ref 78)]), (107, I, J, mm_rf rv sp rr w nw))) rfl h447 ?_
      refine mm_T.br (c := (I 72 y1.toNatClampNeg) < 0) (a := ((142, [some (.ref 62), some (.int y1)], [(.int y1), (.ref 78)]), (107, I, J, mm_rf rv sp rr w nw))) (b := ((146, [some (.ref 62), some (.int y1)], [(.int y1), (.ref 78)]), (107, I, J, mm_rf rv sp rr w nw))) rfl (fun h448 => ?_) (fun h448 => ?_)
      · rw [if_pos h448] at e
        refine mm_T.seg (f' := (152, [some (.ref 62), some (.int y1)], [(.int 0), (.int y1), (.ref 78)])) (h' := (107, I, J, mm_rf rv sp rr w nw)) 2 rfl ?_
        by_cases h449 : y1 < 0 ∨ 56 ≤ y1.toNatClampNeg
        · rw [if_pos h449] at e; cases e
        rw [if_neg h449] at e
        refine mm_T.guard (y := ((153, [some (.ref 62), some (.int y1)], []), (107, (mm_up I 78 y1.toNatClampNeg 0), J, mm_rf rv sp rr w nw))) rfl h449 ?_
        refine mm_T.seg (f' := (163, [some (.ref 62), some (.int y1)], [(.int y1), (.ref 73), (.int y1), (.ref 79)])) (h' := (107, (mm_up I 78 y1.toNatClampNeg 0), J, mm_rf rv sp rr w nw)) 6 rfl ?_
        by_cases h450 : y1 < 0 ∨ 56 ≤ y1.toNatClampNeg
        · rw [if_pos h450] at e; cases e
        rw [if_neg h450] at e
        refine mm_T.guard (y := ((164, [some (.ref 62), some (.int y1)], [(.int (I 73 y1.toNatClampNeg)), (.int y1), (.ref 79)]), (107, (mm_up I 78 y1.toNatClampNeg 0), J, mm_rf rv sp rr w nw))) rfl h450 ?_
        refine mm_T.br (c := (I 73 y1.toNatClampNeg) < 0) (a := ((167, [some (.ref 62), some (.int y1)], [(.int y1), (.ref 79)]), (107, (mm_up I 78 y1.toNatClampNeg 0), J, mm_rf rv sp rr w nw))) (b := ((171, [some (.ref 62), some (.int y1)], [(.int y1), (.ref 79)]), (107, (mm_up I 78 y1.toNatClampNeg 0), J, mm_rf rv sp rr w nw))) rfl (fun h451 => ?_) (fun h451 => ?_)
        · rw [if_pos h451] at e
          refine mm_T.seg (f' := (172, [some (.ref 62), some (.int y1)], [(.int 0), (.int y1), (.ref 79)])) (h' := (107, (mm_up I 78 y1.toNatClampNeg 0), J, mm_rf rv sp rr w nw)) 2 rfl ?_
          by_cases h452 : y1 < 0 ∨ 56 ≤ y1.toNatClampNeg
          · rw [if_pos h452] at e; cases e
          rw [if_neg h452] at e
          refine mm_T.guard (y := ((173, [some (.ref 62), some (.int y1)], []), (107, (mm_up (mm_up I 78 y1.toNatClampNeg 0) 79 y1.toNatClampNeg 0), J, mm_rf rv sp rr w nw))) rfl h452 ?_
          refine mm_T.seg (f' := (122, [some (.ref 62), some (.int (y1 + 1))], [])) (h' := (107, (mm_up (mm_up I 78 y1.toNatClampNeg 0) 79 y1.toNatClampNeg 0), J, mm_rf rv sp rr w nw)) 2 rfl ?_
          refine mm_T.mask [true, true] ?_
          exact ih (y1 + 1) (mm_up (mm_up I 78 y1.toNatClampNeg 0) 79 y1.toNatClampNeg 0) J rv sp rr w nw out e k
        · rw [if_neg h451] at e
          refine mm_T.seg (f' := (172, [some (.ref 62), some (.int y1)], [(.int 1), (.int y1), (.ref 79)])) (h' := (107, (mm_up I 78 y1.toNatClampNeg 0), J, mm_rf rv sp rr w nw)) 1 rfl ?_
          by_cases h453 : y1 < 0 ∨ 56 ≤ y1.toNatClampNeg
          · rw [if_pos h453] at e; cases e
          rw [if_neg h453] at e
          refine mm_T.guard (y := ((173, [some (.ref 62), some (.int y1)], []), (107, (mm_up (mm_up I 78 y1.toNatClampNeg 0) 79 y1.toNatClampNeg 1), J, mm_rf rv sp rr w nw))) rfl h453 ?_
          refine mm_T.seg (f' := (122, [some (.ref 62), some (.int (y1 + 1))], [])) (h' := (107, (mm_up (mm_up I 78 y1.toNatClampNeg 0) 79 y1.toNatClampNeg 1), J, mm_rf rv sp rr w nw)) 2 rfl ?_
          refine mm_T.mask [true, true] ?_
          exact ih (y1 + 1) (mm_up (mm_up I 78 y1.toNatClampNeg 0) 79 y1.toNatClampNeg 1) J rv sp rr w nw out e k
      · rw [if_neg h448] at e
        refine mm_T.seg (f' := (151, [some (.ref 62), some (.int y1)], [(.int y1), (.ref 72), (.int y1), (.ref 78)])) (h' := (107, I, J, mm_rf rv sp rr w nw)) 3 rfl ?_
        by_cases h454 : y1 < 0 ∨ 56 ≤ y1.toNatClampNeg
        · rw [if_pos h454] at e; cases e
        rw [if_neg h454] at e
        refine mm_T.guard (y := ((152, [some (.ref 62), some (.int y1)], [(.int (I 72 y1.toNatClampNeg)), (.int y1), (.ref 78)]), (107, I, J, mm_rf rv sp rr w nw))) rfl h454 ?_
        by_cases h455 : y1 < 0 ∨ 56 ≤ y1.toNatClampNeg
        · rw [if_pos h455] at e; cases e
        rw [if_neg h455] at e
        refine mm_T.guard (y := ((153, [some (.ref 62), some (.int y1)], []), (107, (mm_up I 78 y1.toNatClampNeg (I 72 y1.toNatClampNeg)), J, mm_rf rv sp rr w nw))) rfl h455 ?_
        refine mm_T.seg (f' := (163, [some (.ref 62), some (.int y1)], [(.int y1), (.ref 73), (.int y1), (.ref 79)])) (h' := (107, (mm_up I 78 y1.toNatClampNeg (I 72 y1.toNatClampNeg)), J, mm_rf rv sp rr w nw)) 6 rfl ?_
        by_cases h456 : y1 < 0 ∨ 56 ≤ y1.toNatClampNeg
        · rw [if_pos h456] at e; cases e
        rw [if_neg h456] at e
        refine mm_T.guard (y := ((164, [some (.ref 62), some (.int y1)], [(.int (I 73 y1.toNatClampNeg)), (.int y1), (.ref 79)]), (107, (mm_up I 78 y1.toNatClampNeg (I 72 y1.toNatClampNeg)), J, mm_rf rv sp rr w nw))) rfl h456 ?_
        refine mm_T.br (c := (I 73 y1.toNatClampNeg) < 0) (a := ((167, [some (.ref 62), some (.int y1)], [(.int y1), (.ref 79)]), (107, (mm_up I 78 y1.toNatClampNeg (I 72 y1.toNatClampNeg)), J, mm_rf rv sp rr w nw))) (b := ((171, [some (.ref 62), some (.int y1)], [(.int y1), (.ref 79)]), (107, (mm_up I 78 y1.toNatClampNeg (I 72 y1.toNatClampNeg)), J, mm_rf rv sp rr w nw))) rfl (fun h457 => ?_) (fun h457 => ?_)
        · rw [if_pos h457] at e
          refine mm_T.seg (f' := (172, [some (.ref 62), some (.int y1)], [(.int 0), (.int y1), (.ref 79)])) (h' := (107, (mm_up I 78 y1.toNatClampNeg (I 72 y1.toNatClampNeg)), J, mm_rf rv sp rr w nw)) 2 rfl ?_
          by_cases h458 : y1 < 0 ∨ 56 ≤ y1.toNatClampNeg
          · rw [if_pos h458] at e; cases e
          rw [if_neg h458] at e
          refine mm_T.guard (y := ((173, [some (.ref 62), some (.int y1)], []), (107, (mm_up (mm_up I 78 y1.toNatClampNeg (I 72 y1.toNatClampNeg)) 79 y1.toNatClampNeg 0), J, mm_rf rv sp rr w nw))) rfl h458 ?_
          refine mm_T.seg (f' := (122, [some (.ref 62), some (.int (y1 + 1))], [])) (h' := (107, (mm_up (mm_up I 78 y1.toNatClampNeg (I 72 y1.toNatClampNeg)) 79 y1.toNatClampNeg 0), J, mm_rf rv sp rr w nw)) 2 rfl ?_
          refine mm_T.mask [true, true] ?_
          exact ih (y1 + 1) (mm_up (mm_up I 78 y1.toNatClampNeg (I 72 y1.toNatClampNeg)) 79 y1.toNatClampNeg 0) J rv sp rr w nw out e k
        · rw [if_neg h457] at e
          refine mm_T.seg (f' := (172, [some (.ref 62), some (.int y1)], [(.int 1), (.int y1), (.ref 79)])) (h' := (107, (mm_up I 78 y1.toNatClampNeg (I 72 y1.toNatClampNeg)), J, mm_rf rv sp rr w nw)) 1 rfl ?_
          by_cases h459 : y1 < 0 ∨ 56 ≤ y1.toNatClampNeg
          · rw [if_pos h459] at e; cases e
          rw [if_neg h459] at e
          refine mm_T.guard (y := ((173, [some (.ref 62), some (.int y1)], []), (107, (mm_up (mm_up I 78 y1.toNatClampNeg (I 72 y1.toNatClampNeg)) 79 y1.toNatClampNeg 1), J, mm_rf rv sp rr w nw))) rfl h459 ?_
          refine mm_T.seg (f' := (122, [some (.ref 62), some (.int (y1 + 1))], [])) (h' := (107, (mm_up (mm_up I 78 y1.toNatClampNeg (I 72 y1.toNatClampNeg)) 79 y1.toNatClampNeg 1), J, mm_rf rv sp rr w nw)) 2 rfl ?_
          refine mm_T.mask [true, true] ?_
          exact ih (y1 + 1) (mm_up (mm_up I 78 y1.toNatClampNeg (I 72 y1.toNatClampNeg)) 79 y1.toNatClampNeg 1) J rv sp rr w nw out e k
    · rw [if_neg h446] at e
      cases e
      refine mm_T.mask [true, false] ?_
      exact k
set_option maxRecDepth 100000 in
set_option maxHeartbeats 4000000 in
theorem tlX12_river_L181 (d : Nat) (Q : Option Value → mm_H → Prop) : ∀ (n : Nat) (y1 : Int32) (I : Nat → Nat → Int32) (J : Nat → Nat → Int64) (rv sp rr w nw : Nat), ∀ (out : (Nat → Nat → Int32)), fX12_river_L181 n y1 I = some out → mm_T none (d + 7) 250 (200, [some (.ref 62), none], []) (107, out, J, mm_rf rv sp rr w nw) Q → mm_T none (d + 7) 250 (181, [some (.ref 62), some (.int y1)], []) (107, I, J, mm_rf rv sp rr w nw) Q := by
  intro n
  induction n with
  | zero =>
    intro y1 I J rv sp rr w nw out e k
    rw [fX12_river_L181] at e; cases e
  | succ n ih =>
    intro y1 I J rv sp rr w nw out e k
    rw [fX12_river_L181] at e
    refine mm_T.seg (f' := (184, [some (.ref 62), some (.int y1)], [(.int 28), (.int y1)])) (h' := (107, I, J, mm_rf rv sp rr w nw)) 2 rfl ?_
    refine mm_T.br (c := y1 < 28) (a := ((187, [some (.ref 62), some (.int y1)], []), (107, I, J, mm_rf rv sp rr w nw))) (b := ((200, [some (.ref 62), some (.int y1)], []), (107, I, J, mm_rf rv sp rr w nw))) rfl (fun h461 => ?_) (fun h461 => ?_)
    · rw [if_pos h461] at e
      refine mm_T.seg (f' := (193, [some (.ref 62), some (.int y1)], [(.int 0), (.int y1), (.ref 84)])) (h' := (107, I, J, mm_rf rv sp rr w nw)) 4 rfl ?_
      by_cases h462 : y1 < 0 ∨ 28 ≤ y1.toNatClampNeg
      · rw [if_pos h462] at e; cases e
      rw [if_neg h462] at e
      refine mm_T.guard (y := ((194, [some (.ref 62), some (.int y1)], []), (107, (mm_up I 84 y1.toNatClampNeg 0), J, mm_rf rv sp rr w nw))) rfl h462 ?_
      refine mm_T.seg (f' := (181, [some (.ref 62), some (.int (y1 + 1))], [])) (h' := (107, (mm_up I 84 y1.toNatClampNeg 0), J, mm_rf rv sp rr w nw)) 2 rfl ?_
      refine mm_T.mask [true, true] ?_
      exact ih (y1 + 1) (mm_up I 84 y1.toNatClampNeg 0) J rv sp rr w nw out e k
    · rw [if_neg h461] at e
      cases e
      refine mm_T.mask [true, false] ?_
      exact k
set_option maxRecDepth 100000 in
set_option maxHeartbeats 4000000 in
theorem tlX12_river_L202 (d : Nat) (Q : Option Value → mm_H → Prop) : ∀ (n : Nat) (y1 : Int32) (I : Nat → Nat → Int32) (J : Nat → Nat → Int64) (rv sp rr w nw : Nat), ∀ (out : (Nat → Nat → Int32)), fX12_river_L202 n y1 I = some out → mm_T none (d + 7) 250 (264, [some (.ref 62), none], []) (107, out, J, mm_rf rv sp rr w nw) Q → mm_T none (d + 7) 250 (202, [some (.ref 62), some (.int y1)], []) (107, I, J, mm_rf rv sp rr w nw) Q := by
  intro n
  induction n with
  | zero =>
    intro y1 I J rv sp rr w nw out e k
    rw [fX12_river_L202] at e; cases e
  | succ n ih =>
    intro y1 I J rv sp rr w nw out e k
    rw [fX12_river_L202] at e
    refine mm_T.seg (f' := (207, [some (.ref 62), some (.int y1)], [(.int (I 62 48)), (.int y1)])) (h' := (107, I, J, mm_rf rv sp rr w nw)) 3 rfl ?_
    refine mm_T.br (c := y1 < (I 62 48)) (a := ((210, [some (.ref 62), some (.int y1)], []), (107, I, J, mm_rf rv sp rr w nw))) (b := ((264, [some (.ref 62), some (.int y1)], []), (107, I, J, mm_rf rv sp rr w nw))) rfl (fun h464 => ?_) (fun h464 => ?_)
    · rw [if_pos h464] at e
      refine mm_T.seg (f' := (220, [some (.ref 62), some (.int y1)], [(.int y1), (.ref 74), (.int y1), (.ref 80)])) (h' := (107, I, J, mm_rf rv sp rr w nw)) 6 rfl ?_
      by_cases h465 : y1 < 0 ∨ 4 ≤ y1.toNatClampNeg
      · rw [if_pos h465] at e; cases e
      rw [if_neg h465] at e
      refine mm_T.guard (y := ((221, [some (.ref 62), some (.int y1)], [(.int (I 74 y1.toNatClampNeg)), (.int y1), (.ref 80)]), (107, I, J, mm_rf rv sp rr w nw))) rfl h465 ?_
      by_cases h466 : y1 < 0 ∨ 4 ≤ y1.toNatClampNeg
      · rw [if_pos h466] at e; cases e
      rw [if_neg h466] at e
      refine mm_T.guard (y := ((222, [some (.ref 62), some (.int y1)], []), (107, (mm_up I 80 y1.toNatClampNeg (I 74 y1.toNatClampNeg)), J, mm_rf rv sp rr w nw))) rfl h466 ?_
      refine mm_T.seg (f' := (232, [some (.ref 62), some (.int y1)], [(.int y1), (.ref 75), (.int y1), (.ref 81)])) (h' := (107, (mm_up I 80 y1.toNatClampNeg (I 74 y1.toNatClampNeg)), J, mm_rf rv sp rr w nw)) 6 rfl ?_
      by_cases h467 : y1 < 0 ∨ 4 ≤ y1.toNatClampNeg
      · rw [if_pos h467] at e; cases e
      rw [if_neg h467] at e
      refine mm_T.guard (y := ((233, [some (.ref 62), some (.int y1)], [(.int (I 75 y1.toNatClampNeg)), (.int y1), (.ref 81)]), (107, (mm_up I 80 y1.toNatClampNeg (I 74 y1.toNatClampNeg)), J, mm_rf rv sp rr w nw))) rfl h467 ?_
      by_cases h468 : y1 < 0 ∨ 4 ≤ y1.toNatClampNeg
      · rw [if_pos h468] at e; cases e
      rw [if_neg h468] at e
      refine mm_T.guard (y := ((234, [some (.ref 62), some (.int y1)], []), (107, (mm_up (mm_up I 80 y1.toNatClampNeg (I 74 y1.toNatClampNeg)) 81 y1.toNatClampNeg (I 75 y1.toNatClampNeg)), J, mm_rf rv sp rr w nw))) rfl h468 ?_
      refine mm_T.seg (f' := (244, [some (.ref 62), some (.int y1)], [(.int y1), (.ref 76), (.int y1), (.ref 82)])) (h' := (107, (mm_up (mm_up I 80 y1.toNatClampNeg (I 74 y1.toNatClampNeg)) 81 y1.toNatClampNeg (I 75 y1.toNatClampNeg)), J, mm_rf rv sp rr w nw)) 6 rfl ?_
      by_cases h469 : y1 < 0 ∨ 4 ≤ y1.toNatClampNeg
      · rw [if_pos h469] at e; cases e
      rw [if_neg h469] at e
      refine mm_T.guard (y := ((245, [some (.ref 62), some (.int y1)], [(.int (I 76 y1.toNatClampNeg)), (.int y1), (.ref 82)]), (107, (mm_up (mm_up I 80 y1.toNatClampNeg (I 74 y1.toNatClampNeg)) 81 y1.toNatClampNeg (I 75 y1.toNatClampNeg)), J, mm_rf rv sp rr w nw))) rfl h469 ?_
      by_cases h470 : y1 < 0 ∨ 4 ≤ y1.toNatClampNeg
      · rw [if_pos h470] at e; cases e
      rw [if_neg h470] at e
      refine mm_T.guard (y := ((246, [some (.ref 62), some (.int y1)], []), (107, (mm_up (mm_up (mm_up I 80 y1.toNatClampNeg (I 74 y1.toNatClampNeg)) 81 y1.toNatClampNeg (I 75 y1.toNatClampNeg)) 82 y1.toNatClampNeg (I 76 y1.toNatClampNeg)), J, mm_rf rv sp rr w nw))) rfl h470 ?_
      refine mm_T.seg (f' := (256, [some (.ref 62), some (.int y1)], [(.int y1), (.ref 81), (.int y1), (.ref 84)])) (h' := (107, (mm_up (mm_up (mm_up I 80 y1.toNatClampNeg (I 74 y1.toNatClampNeg)) 81 y1.toNatClampNeg (I 75 y1.toNatClampNeg)) 82 y1.toNatClampNeg (I 76 y1.toNatClampNeg)), J, mm_rf rv sp rr w nw)) 6 rfl ?_
      by_cases h471 : y1 < 0 ∨ 4 ≤ y1.toNatClampNeg
      · rw [if_pos h471] at e; cases e
      rw [if_neg h471] at e
      refine mm_T.guard (y := ((257, [some (.ref 62), some (.int y1)], [(.int ((mm_up (mm_up I 80 y1.toNatClampNeg (I 74 y1.toNatClampNeg)) 81 y1.toNatClampNeg (I 75 y1.toNatClampNeg)) 81 y1.toNatClampNeg)), (.int y1), (.ref 84)]), (107, (mm_up (mm_up (mm_up I 80 y1.toNatClampNeg (I 74 y1.toNatClampNeg)) 81 y1.toNatClampNeg (I 75 y1.toNatClampNeg)) 82 y1.toNatClampNeg (I 76 y1.toNatClampNeg)), J, mm_rf rv sp rr w nw))) rfl h471 ?_
      by_cases h472 : y1 < 0 ∨ 28 ≤ y1.toNatClampNeg
      · rw [if_pos h472] at e; cases e
      rw [if_neg h472] at e
      refine mm_T.guard (y := ((258, [some (.ref 62), some (.int y1)], []), (107, (mm_up (mm_up (mm_up (mm_up I 80 y1.toNatClampNeg (I 74 y1.toNatClampNeg)) 81 y1.toNatClampNeg (I 75 y1.toNatClampNeg)) 82 y1.toNatClampNeg (I 76 y1.toNatClampNeg)) 84 y1.toNatClampNeg ((mm_up (mm_up I 80 y1.toNatClampNeg (I 74 y1.toNatClampNeg)) 81 y1.toNatClampNeg (I 75 y1.toNatClampNeg)) 81 y1.toNatClampNeg)), J, mm_rf rv sp rr w nw))) rfl h472 ?_
      refine mm_T.seg (f' := (202, [some (.ref 62), some (.int (y1 + 1))], [])) (h' := (107, (mm_up (mm_up (mm_up (mm_up I 80 y1.toNatClampNeg (I 74 y1.toNatClampNeg)) 81 y1.toNatClampNeg (I 75 y1.toNatClampNeg)) 82 y1.toNatClampNeg (I 76 y1.toNatClampNeg)) 84 y1.toNatClampNeg ((mm_up (mm_up I 80 y1.toNatClampNeg (I 74 y1.toNatClampNeg)) 81 y1.toNatClampNeg (I 75 y1.toNatClampNeg)) 81 y1.toNatClampNeg)), J, mm_rf rv sp rr w nw)) 2 rfl ?_
      refine mm_T.mask [true, true] ?_
      exact ih (y1 + 1) (mm_up (mm_up (mm_up (mm_up I 80 y1.toNatClampNeg (I 74 y1.toNatClampNeg)) 81 y1.toNatClampNeg (I 75 y1.toNatClampNeg)) 82 y1.toNatClampNeg (I 76 y1.toNatClampNeg)) 84 y1.toNatClampNeg ((mm_up (mm_up I 80 y1.toNatClampNeg (I 74 y1.toNatClampNeg)) 81 y1.toNatClampNeg (I 75 y1.toNatClampNeg)) 81 y1.toNatClampNeg)) J rv sp rr w nw out e k
    · rw [if_neg h464] at e
      cases e
      refine mm_T.mask [true, false] ?_
      exact k
set_option maxRecDepth 100000 in
set_option maxHeartbeats 4000000 in
theorem tlX12_river_L266 (d : Nat) (Q : Option Value → mm_H → Prop) : ∀ (n : Nat) (y1 : Int32) (I : Nat → Nat → Int32) (J : Nat → Nat → Int64) (rv sp rr w nw : Nat), ∀ (out : (Nat → Nat → Int32)), fX12_river_L266 n y1 I = some out → mm_T none (d + 7) 250 (302, [some (.ref 62), none], []) (107, out, J, mm_rf rv sp rr w nw) Q → mm_T none (d + 7) 250 (266, [some (.ref 62), some (.int y1)], []) (107, I, J, mm_rf rv sp rr w nw) Q := by
  intro n
  induction n with
  | zero =>
    intro y1 I J rv sp rr w nw out e k
    rw [fX12_river_L266] at e; cases e
  | succ n ih =>
    intro y1 I J rv sp rr w nw out e k
    rw [fX12_river_L266] at e
    refine mm_T.seg (f' := (271, [some (.ref 62), some (.int y1)], [(.int (I 62 49)), (.int y1)])) (h' := (107, I, J, mm_rf rv sp rr w nw)) 3 rfl ?_
    refine mm_T.br (c := y1 < (I 62 49)) (a := ((274, [some (.ref 62), some (.int y1)], []), (107, I, J, mm_rf rv sp rr w nw))) (b := ((302, [some (.ref 62), some (.int y1)], []), (107, I, J, mm_rf rv sp rr w nw))) rfl (fun h474 => ?_) (fun h474 => ?_)
    · rw [if_pos h474] at e
      refine mm_T.seg (f' := (284, [some (.ref 62), some (.int y1)], [(.int y1), (.ref 77), (.int y1), (.ref 83)])) (h' := (107, I, J, mm_rf rv sp rr w nw)) 6 rfl ?_
      by_cases h475 : y1 < 0 ∨ 7 ≤ y1.toNatClampNeg
      · rw [if_pos h475] at e; cases e
      rw [if_neg h475] at e
      refine mm_T.guard (y := ((285, [some (.ref 62), some (.int y1)], [(.int (I 77 y1.toNatClampNeg)), (.int y1), (.ref 83)]), (107, I, J, mm_rf rv sp rr w nw))) rfl h475 ?_
      by_cases h476 : y1 < 0 ∨ 7 ≤ y1.toNatClampNeg
      · rw [if_pos h476] at e; cases e
      rw [if_neg h476] at e
      refine mm_T.guard (y := ((286, [some (.ref 62), some (.int y1)], []), (107, (mm_up I 83 y1.toNatClampNeg (I 77 y1.toNatClampNeg)), J, mm_rf rv sp rr w nw))) rfl h476 ?_
      refine mm_T.seg (f' := (295, [some (.ref 62), some (.int y1)], [(.int (-1)), (.int (20 + y1)), (.ref 84)])) (h' := (107, (mm_up I 83 y1.toNatClampNeg (I 77 y1.toNatClampNeg)), J, mm_rf rv sp rr w nw)) 6 rfl ?_
      by_cases h477 : (20 + y1) < 0 ∨ 28 ≤ (20 + y1).toNatClampNeg
      · rw [if_pos h477] at e; cases e
      rw [if_neg h477] at e
      refine mm_T.guard (y := ((296, [some (.ref 62), some (.int y1)], []), (107, (mm_up (mm_up I 83 y1.toNatClampNeg (I 77 y1.toNatClampNeg)) 84 (20 + y1).toNatClampNeg (-1)), J, mm_rf rv sp rr w nw))) rfl h477 ?_
      refine mm_T.seg (f' := (266, [some (.ref 62), some (.int (y1 + 1))], [])) (h' := (107, (mm_up (mm_up I 83 y1.toNatClampNeg (I 77 y1.toNatClampNeg)) 84 (20 + y1).toNatClampNeg (-1)), J, mm_rf rv sp rr w nw)) 2 rfl ?_
      refine mm_T.mask [true, true] ?_
      exact ih (y1 + 1) (mm_up (mm_up I 83 y1.toNatClampNeg (I 77 y1.toNatClampNeg)) 84 (20 + y1).toNatClampNeg (-1)) J rv sp rr w nw out e k
    · rw [if_neg h474] at e
      cases e
      refine mm_T.mask [true, false] ?_
      exact k
set_option maxRecDepth 100000 in
set_option maxHeartbeats 4000000 in
theorem tlX12_river_L335 (d : Nat) (Q : Option Value → mm_H → Prop) : ∀ (n : Nat) (y1 : Int32) (I : Nat → Nat → Int32) (J : Nat → Nat → Int64) (rv sp rr w nw : Nat), ∀ (out : (Nat → Nat → Int32)), fX12_river_L335 n y1 I = some out → mm_T none (d + 7) 250 (353, [some (.ref 62), none], []) (107, out, J, mm_rf rv sp rr w nw) Q → mm_T none (d + 7) 250 (335, [some (.ref 62), some (.int y1)], []) (107, I, J, mm_rf rv sp rr w nw) Q := by
  intro n
  induction n with
  | zero =>
    intro y1 I J rv sp rr w nw out e k
    rw [fX12_river_L335] at e; cases e
  | succ n ih =>
    intro y1 I J rv sp rr w nw out e k
    rw [fX12_river_L335] at e
    refine mm_T.seg (f' := (337, [some (.ref 62), some (.int y1)], [(.int 3), (.int y1)])) (h' := (107, I, J, mm_rf rv sp rr w nw)) 2 rfl ?_
    refine mm_T.br (c := y1 < 3) (a := ((340, [some (.ref 62), some (.int y1)], []), (107, I, J, mm_rf rv sp rr w nw))) (b := ((353, [some (.ref 62), some (.int y1)], []), (107, I, J, mm_rf rv sp rr w nw))) rfl (fun h479 => ?_) (fun h479 => ?_)
    · rw [if_pos h479] at e
      refine mm_T.seg (f' := (346, [some (.ref 62), some (.int y1)], [(.int 0), (.int y1), (.ref 105)])) (h' := (107, I, J, mm_rf rv sp rr w nw)) 4 rfl ?_
      by_cases h480 : y1 < 0 ∨ 3 ≤ y1.toNatClampNeg
      · rw [if_pos h480] at e; cases e
      rw [if_neg h480] at e
      refine mm_T.guard (y := ((347, [some (.ref 62), some (.int y1)], []), (107, (mm_up I 105 y1.toNatClampNeg (vp_nar .boolean 0)), J, mm_rf rv sp rr w nw))) rfl h480 ?_
      refine mm_T.seg (f' := (335, [some (.ref 62), some (.int (y1 + 1))], [])) (h' := (107, (mm_up I 105 y1.toNatClampNeg (vp_nar .boolean 0)), J, mm_rf rv sp rr w nw)) 2 rfl ?_
      refine mm_T.mask [true, true] ?_
      exact ih (y1 + 1) (mm_up I 105 y1.toNatClampNeg (vp_nar .boolean 0)) J rv sp rr w nw out e k
    · rw [if_neg h479] at e
      cases e
      refine mm_T.mask [true, false] ?_
      exact k
set_option maxRecDepth 100000 in
set_option maxHeartbeats 4000000 in
theorem tbX12_river_J77 (d n : Nat) (u0 : Int32) (I : Nat → Nat → Int32) (J : Nat → Nat → Int64) (rv sp rr w nw : Nat) (out : Int32 × (Nat → Nat → Int32) × (Nat → Nat → Int64)) (e : fX12_river_J77 n u0 I J = some out) : mm_T none (d + 7) 250 (77, [some (.ref 62), none], [(.int u0), (.ref 62)]) (107, I, J, mm_rf rv sp rr w nw) (fun v h => v = some (.int out.1) ∧ h = (107, out.2.1, out.2.2, mm_rf rv sp rr w nw)) := by
  unfold fX12_river_J77 at e
  refine mm_T.seg (f' := (82, [some (.ref 62), some (.int 0)], [])) (h' := (107, (mm_up I 62 18 u0), J, mm_rf rv sp rr w nw)) 3 rfl ?_
  refine mm_T.mask [true, true] ?_
  obtain ⟨o445, eo445, e⟩ := mm_bind e
  refine tlX12_river_L82 d _ n 0 (mm_up I 62 18 u0) J rv sp rr w nw o445 eo445 ?_
  refine mm_T.seg (f' := (122, [some (.ref 62), some (.int 0)], [])) (h' := (107, o445, J, mm_rf rv sp rr w nw)) 2 rfl ?_
  refine mm_T.mask [true, true] ?_
  obtain ⟨o460, eo460, e⟩ := mm_bind e
  refine tlX12_river_L122 d _ n 0 o445 J rv sp rr w nw o460 eo460 ?_
  refine mm_T.seg (f' := (181, [some (.ref 62), some (.int 0)], [])) (h' := (107, o460, J, mm_rf rv sp rr w nw)) 2 rfl ?_
  refine mm_T.mask [true, true] ?_
  obtain ⟨o463, eo463, e⟩ := mm_bind e
  refine tlX12_river_L181 d _ n 0 o460 J rv sp rr w nw o463 eo463 ?_
  refine mm_T.seg (f' := (202, [some (.ref 62), some (.int 0)], [])) (h' := (107, o463, J, mm_rf rv sp rr w nw)) 2 rfl ?_
  refine mm_T.mask [true, true] ?_
  obtain ⟨o473, eo473, e⟩ := mm_bind e
  refine tlX12_river_L202 d _ n 0 o463 J rv sp rr w nw o473 eo473 ?_
  refine mm_T.seg (f' := (266, [some (.ref 62), some (.int 0)], [])) (h' := (107, o473, J, mm_rf rv sp rr w nw)) 2 rfl ?_
  refine mm_T.mask [true, true] ?_
  obtain ⟨o478, eo478, e⟩ := mm_bind e
  refine tlX12_river_L266 d _ n 0 o473 J rv sp rr w nw o478 eo478 ?_
  refine mm_T.seg (f' := (335, [some (.ref 62), some (.int 0)], [])) (h' := (107, (mm_up (mm_up (mm_up (mm_up (mm_up o478 84 27 (o478 62 45)) 62 57 0) 62 58 0) 62 75 0) 62 61 0), J, mm_rf rv sp rr w nw)) 20 rfl ?_
  refine mm_T.mask [true, true] ?_
  obtain ⟨o481, eo481, e⟩ := mm_bind e
  refine tlX12_river_L335 d _ n 0 (mm_up (mm_up (mm_up (mm_up (mm_up o478 84 27 (o478 62 45)) 62 57 0) 62 58 0) 62 75 0) 62 61 0) J rv sp rr w nw o481 eo481 ?_
  refine mm_T.seg (f' := (357, [some (.ref 62), none], [(.int (o481 62 48))])) (h' := (107, o481, J, mm_rf rv sp rr w nw)) 2 rfl ?_
  cases e
  exact mm_T.ret rfl ⟨rfl, rfl⟩
set_option maxRecDepth 100000 in
set_option maxHeartbeats 4000000 in
theorem tX12_river (d n : Nat) (I : Nat → Nat → Int32) (J : Nat → Nat → Int64) (rv sp rr w nw : Nat) (out : Int32 × (Nat → Nat → Int32) × (Nat → Nat → Int64)) (e : fX12_river n I J = some out) : mm_T none (d + 7) 250 (mm_ent 250 [(.ref 62)]) (107, I, J, mm_rf rv sp rr w nw) (fun v h => v = some (.int out.1) ∧ h = (107, out.2.1, out.2.2, mm_rf rv sp rr w nw)) := by
  unfold fX12_river at e
  refine mm_T.seg (f' := (1, [some (.ref 62), none], [(.ref 62)])) (h' := (107, I, J, mm_rf rv sp rr w nw)) 1 rfl ?_
  obtain ⟨o437, eo437, e⟩ := mm_bind e
  refine mm_T.call (t := 249) (as := [(.ref 62)]) (f' := (4, [some (.ref 62), none], [])) rfl (tX12_readAll (d + 0) n I J rv sp rr w nw o437 eo437) (fun v h hq => ?_)
  obtain ⟨rfl, rfl⟩ := hq
  refine mm_T.seg (f' := (8, [some (.ref 62), none], [(.int (o437.1 62 2))])) (h' := (107, o437.1, o437.2, mm_rf rv sp rr w nw)) 2 rfl ?_
  refine mm_T.br (c := 0 < (o437.1 62 2)) (a := ((11, [some (.ref 62), none], []), (107, o437.1, o437.2, mm_rf rv sp rr w nw))) (b := ((13, [some (.ref 62), none], []), (107, o437.1, o437.2, mm_rf rv sp rr w nw))) rfl (fun h438 => ?_) (fun h438 => ?_)
  · rw [if_pos h438] at e
    refine mm_T.seg (f' := (12, [some (.ref 62), none], [(.int (-1))])) (h' := (107, o437.1, o437.2, mm_rf rv sp rr w nw)) 1 rfl ?_
    cases e
    exact mm_T.ret rfl ⟨rfl, rfl⟩
  · rw [if_neg h438] at e
    refine mm_T.seg (f' := (66, [some (.ref 62), none], [(.int (o437.1 62 24)), (.ref 62)])) (h' := (107, (mm_up (mm_up (mm_up (mm_up (mm_up (mm_up o437.1 62 46 (o437.1 62 38)) 62 47 (o437.1 62 39)) 62 48 (o437.1 62 42)) 62 49 (o437.1 62 43)) 62 50 (o437.1 62 44)) 62 21 (o437.1 62 20)), o437.2, mm_rf rv sp rr w nw)) 27 rfl ?_
    refine mm_T.br (c := (o437.1 62 24) = 0) (a := ((76, [some (.ref 62), none], [(.ref 62)]), (107, (mm_up (mm_up (mm_up (mm_up (mm_up (mm_up o437.1 62 46 (o437.1 62 38)) 62 47 (o437.1 62 39)) 62 48 (o437.1 62 42)) 62 49 (o437.1 62 43)) 62 50 (o437.1 62 44)) 62 21 (o437.1 62 20)), o437.2, mm_rf rv sp rr w nw))) (b := ((69, [some (.ref 62), none], [(.ref 62)]), (107, (mm_up (mm_up (mm_up (mm_up (mm_up (mm_up o437.1 62 46 (o437.1 62 38)) 62 47 (o437.1 62 39)) 62 48 (o437.1 62 42)) 62 49 (o437.1 62 43)) 62 50 (o437.1 62 44)) 62 21 (o437.1 62 20)), o437.2, mm_rf rv sp rr w nw))) rfl (fun h439 => ?_) (fun h439 => ?_)
    · rw [if_pos h439] at e
      refine mm_T.seg (f' := (77, [some (.ref 62), none], [(.int 0), (.ref 62)])) (h' := (107, (mm_up (mm_up (mm_up (mm_up (mm_up (mm_up o437.1 62 46 (o437.1 62 38)) 62 47 (o437.1 62 39)) 62 48 (o437.1 62 42)) 62 49 (o437.1 62 43)) 62 50 (o437.1 62 44)) 62 21 (o437.1 62 20)), o437.2, mm_rf rv sp rr w nw)) 1 rfl ?_
      refine mm_T.mask [true, false] ?_
      exact tbX12_river_J77 d n 0 (mm_up (mm_up (mm_up (mm_up (mm_up (mm_up o437.1 62 46 (o437.1 62 38)) 62 47 (o437.1 62 39)) 62 48 (o437.1 62 42)) 62 49 (o437.1 62 43)) 62 50 (o437.1 62 44)) 62 21 (o437.1 62 20)) o437.2 rv sp rr w nw out e
    · rw [if_neg h439] at e
      refine mm_T.seg (f' := (77, [some (.ref 62), none], [(.int (o437.1 62 17)), (.ref 62)])) (h' := (107, (mm_up (mm_up (mm_up (mm_up (mm_up (mm_up o437.1 62 46 (o437.1 62 38)) 62 47 (o437.1 62 39)) 62 48 (o437.1 62 42)) 62 49 (o437.1 62 43)) 62 50 (o437.1 62 44)) 62 21 (o437.1 62 20)), o437.2, mm_rf rv sp rr w nw)) 3 rfl ?_
      refine mm_T.mask [true, false] ?_
      exact tbX12_river_J77 d n (o437.1 62 17) (mm_up (mm_up (mm_up (mm_up (mm_up (mm_up o437.1 62 46 (o437.1 62 38)) 62 47 (o437.1 62 39)) 62 48 (o437.1 62 42)) 62 49 (o437.1 62 43)) 62 50 (o437.1 62 44)) 62 21 (o437.1 62 20)) o437.2 rv sp rr w nw out e
def fX12_fault (x1 : Int32) (I : Nat → Nat → Int32) : Int32 := (if x1 = 0 then (I 62 2) else (if x1 = 1 then (I 62 3) else (-1)))
set_option maxRecDepth 100000 in
set_option maxHeartbeats 4000000 in
theorem tX12_fault (d : Nat) (x1 : Int32) (I : Nat → Nat → Int32) (J : Nat → Nat → Int64) (rv sp rr w nw : Nat) (out : Int32) (e : fX12_fault x1 I = out) : mm_T none (d + 0) 251 (mm_ent 251 [(.ref 62), (.int x1)]) (107, I, J, mm_rf rv sp rr w nw) (fun v h => v = some (.int out) ∧ h = (107, I, J, mm_rf rv sp rr w nw)) := by
  unfold fX12_fault at e
  refine mm_T.seg (f' := (1, [some (.ref 62), some (.int x1)], [(.int x1)])) (h' := (107, I, J, mm_rf rv sp rr w nw)) 1 rfl ?_
  refine mm_T.br (c := x1 = 0) (a := ((4, [some (.ref 62), some (.int x1)], []), (107, I, J, mm_rf rv sp rr w nw))) (b := ((11, [some (.ref 62), some (.int x1)], []), (107, I, J, mm_rf rv sp rr w nw))) rfl (fun h482 => ?_) (fun h482 => ?_)
  · rw [if_pos h482] at e
    refine mm_T.seg (f' := (24, [some (.ref 62), some (.int x1)], [(.int (I 62 2))])) (h' := (107, I, J, mm_rf rv sp rr w nw)) 3 rfl ?_
    cases e
    exact mm_T.ret rfl ⟨rfl, rfl⟩
  · rw [if_neg h482] at e
    refine mm_T.seg (f' := (13, [some (.ref 62), some (.int x1)], [(.int 1), (.int x1)])) (h' := (107, I, J, mm_rf rv sp rr w nw)) 2 rfl ?_
    refine mm_T.br (c := x1 = 1) (a := ((16, [some (.ref 62), some (.int x1)], []), (107, I, J, mm_rf rv sp rr w nw))) (b := ((23, [some (.ref 62), some (.int x1)], []), (107, I, J, mm_rf rv sp rr w nw))) rfl (fun h483 => ?_) (fun h483 => ?_)
    · rw [if_pos h483] at e
      refine mm_T.seg (f' := (24, [some (.ref 62), some (.int x1)], [(.int (I 62 3))])) (h' := (107, I, J, mm_rf rv sp rr w nw)) 3 rfl ?_
      cases e
      exact mm_T.ret rfl ⟨rfl, rfl⟩
    · rw [if_neg h483] at e
      refine mm_T.seg (f' := (24, [some (.ref 62), some (.int x1)], [(.int (-1))])) (h' := (107, I, J, mm_rf rv sp rr w nw)) 1 rfl ?_
      cases e
      exact mm_T.ret rfl ⟨rfl, rfl⟩
def fX12_isIn (x0 : Int32) (x1 : Int32) (x2 : Int32) : Int32 := (if x0 < x1 then 0 else (if x2 < x0 then 0 else 1))
set_option maxRecDepth 100000 in
set_option maxHeartbeats 4000000 in
theorem tX12_isIn (d : Nat) (x0 : Int32) (x1 : Int32) (x2 : Int32) (I : Nat → Nat → Int32) (J : Nat → Nat → Int64) (rv sp rr w nw : Nat) (out : Int32) (e : fX12_isIn x0 x1 x2 = out) : mm_T none (d + 0) 252 (mm_ent 252 [(.int x0), (.int x1), (.int x2)]) (107, I, J, mm_rf rv sp rr w nw) (fun v h => v = some (.int out) ∧ h = (107, I, J, mm_rf rv sp rr w nw)) := by
  unfold fX12_isIn at e
  refine mm_T.seg (f' := (2, [some (.int x0), some (.int x1), some (.int x2)], [(.int x1), (.int x0)])) (h' := (107, I, J, mm_rf rv sp rr w nw)) 2 rfl ?_
  refine mm_T.br (c := x0 < x1) (a := ((14, [some (.int x0), some (.int x1), some (.int x2)], []), (107, I, J, mm_rf rv sp rr w nw))) (b := ((5, [some (.int x0), some (.int x1), some (.int x2)], []), (107, I, J, mm_rf rv sp rr w nw))) rfl (fun h484 => ?_) (fun h484 => ?_)
  · rw [if_pos h484] at e
    refine mm_T.seg (f' := (15, [some (.int x0), some (.int x1), some (.int x2)], [(.int 0)])) (h' := (107, I, J, mm_rf rv sp rr w nw)) 1 rfl ?_
    cases e
    exact mm_T.ret rfl ⟨rfl, rfl⟩
  · rw [if_neg h484] at e
    refine mm_T.seg (f' := (7, [some (.int x0), some (.int x1), some (.int x2)], [(.int x2), (.int x0)])) (h' := (107, I, J, mm_rf rv sp rr w nw)) 2 rfl ?_
    refine mm_T.br (c := x2 < x0) (a := ((14, [some (.int x0), some (.int x1), some (.int x2)], []), (107, I, J, mm_rf rv sp rr w nw))) (b := ((10, [some (.int x0), some (.int x1), some (.int x2)], []), (107, I, J, mm_rf rv sp rr w nw))) rfl (fun h485 => ?_) (fun h485 => ?_)
    · rw [if_pos h485] at e
      refine mm_T.seg (f' := (15, [some (.int x0), some (.int x1), some (.int x2)], [(.int 0)])) (h' := (107, I, J, mm_rf rv sp rr w nw)) 1 rfl ?_
      cases e
      exact mm_T.ret rfl ⟨rfl, rfl⟩
    · rw [if_neg h485] at e
      refine mm_T.seg (f' := (15, [some (.int x0), some (.int x1), some (.int x2)], [(.int 1)])) (h' := (107, I, J, mm_rf rv sp rr w nw)) 2 rfl ?_
      cases e
      exact mm_T.ret rfl ⟨rfl, rfl⟩
def fX12_isBoard (x1 : Int32) (I : Nat → Nat → Int32) : Option (Int32) := (if (fX12_isIn x1 0 ((I 62 48) - 1)) = 0 ∨ (fX12_isIn x1 0 ((I 62 48) - 1)) = 1 then some (fX12_isIn x1 0 ((I 62 48) - 1)) else none)
set_option maxRecDepth 100000 in
set_option maxHeartbeats 4000000 in
theorem tX12_isBoard (d : Nat) (x1 : Int32) (I : Nat → Nat → Int32) (J : Nat → Nat → Int64) (rv sp rr w nw : Nat) (out : Int32) (e : fX12_isBoard x1 I = some out) : mm_T none (d + 1) 253 (mm_ent 253 [(.ref 62), (.int x1)]) (107, I, J, mm_rf rv sp rr w nw) (fun v h => v = some (.int out) ∧ h = (107, I, J, mm_rf rv sp rr w nw)) := by
  unfold fX12_isBoard at e
  refine mm_T.seg (f' := (8, [some (.ref 62), some (.int x1)], [(.int ((I 62 48) - 1)), (.int 0), (.int x1)])) (h' := (107, I, J, mm_rf rv sp rr w nw)) 6 rfl ?_
  refine mm_T.call (t := 252) (as := [(.int x1), (.int 0), (.int ((I 62 48) - 1))]) (f' := (11, [some (.ref 62), some (.int x1)], [])) rfl (tX12_isIn (d + 0) x1 0 ((I 62 48) - 1) I J rv sp rr w nw _ rfl) (fun v h hq => ?_)
  obtain ⟨rfl, rfl⟩ := hq
  by_cases h486 : (fX12_isIn x1 0 ((I 62 48) - 1)) = 0 ∨ (fX12_isIn x1 0 ((I 62 48) - 1)) = 1
  case neg => rw [if_neg h486] at e; cases e
  rw [if_pos h486] at e
  cases e
  exact mm_T.retZ (v := some (.int (fX12_isIn x1 0 ((I 62 48) - 1)))) rfl h486 ⟨rfl, rfl⟩
def fX12_isLoad (x1 : Int32) (I : Nat → Nat → Int32) : Option (Int32) := (if (fX12_isIn x1 0 ((I 62 49) - 1)) = 0 ∨ (fX12_isIn x1 0 ((I 62 49) - 1)) = 1 then some (fX12_isIn x1 0 ((I 62 49) - 1)) else none)
set_option maxRecDepth 100000 in
set_option maxHeartbeats 4000000 in
theorem tX12_isLoad (d : Nat) (x1 : Int32) (I : Nat → Nat → Int32) (J : Nat → Nat → Int64) (rv sp rr w nw : Nat) (out : Int32) (e : fX12_isLoad x1 I = some out) : mm_T none (d + 1) 254 (mm_ent 254 [(.ref 62), (.int x1)]) (107, I, J, mm_rf rv sp rr w nw) (fun v h => v = some (.int out) ∧ h = (107, I, J, mm_rf rv sp rr w nw)) := by
  unfold fX12_isLoad at e
  refine mm_T.seg (f' := (8, [some (.ref 62), some (.int x1)], [(.int ((I 62 49) - 1)), (.int 0), (.int x1)])) (h' := (107, I, J, mm_rf rv sp rr w nw)) 6 rfl ?_
  refine mm_T.call (t := 252) (as := [(.int x1), (.int 0), (.int ((I 62 49) - 1))]) (f' := (11, [some (.ref 62), some (.int x1)], [])) rfl (tX12_isIn (d + 0) x1 0 ((I 62 49) - 1) I J rv sp rr w nw _ rfl) (fun v h hq => ?_)
  obtain ⟨rfl, rfl⟩ := hq
  by_cases h487 : (fX12_isIn x1 0 ((I 62 49) - 1)) = 0 ∨ (fX12_isIn x1 0 ((I 62 49) - 1)) = 1
  case neg => rw [if_neg h487] at e; cases e
  rw [if_pos h487] at e
  cases e
  exact mm_T.retZ (v := some (.int (fX12_isIn x1 0 ((I 62 49) - 1)))) rfl h487 ⟨rfl, rfl⟩
def fX12_members_L4 (n : Nat) (y0 : Int32) (y1 : Int32) (y2 : Int32) : Option (Int32) := match n with
  | 0 => none
  | n + 1 => (if y2 < 8 then fX12_members_L4 n y0 (y1 + ((y0 >>> (y2 &&& 31)) &&& 1)) (y2 + 1) else some y1)
def fX12_members (n : Nat) (x0 : Int32) : Option (Int32) := (fX12_members_L4 n x0 0 0).bind fun o489 => some o489
set_option maxRecDepth 100000 in
set_option maxHeartbeats 4000000 in
theorem tlX12_members_L4 (d : Nat) (Q : Option Value → mm_H → Prop) : ∀ (n : Nat) (y0 : Int32) (y1 : Int32) (y2 : Int32) (I : Nat → Nat → Int32) (J : Nat → Nat → Int64) (rv sp rr w nw : Nat), ∀ (out : Int32), fX12_members_L4 n y0 y1 y2 = some out → mm_T none (d + 0) 255 (24, [none, some (.int out), none], []) (107, I, J, mm_rf rv sp rr w nw) Q → mm_T none (d + 0) 255 (4, [some (.int y0), some (.int y1), some (.int y2)], []) (107, I, J, mm_rf rv sp rr w nw) Q := by
  intro n
  induction n with
  | zero =>
    intro y0 y1 y2 I J rv sp rr w nw out e k
    rw [fX12_members_L4] at e; cases e
  | succ n ih =>
    intro y0 y1 y2 I J rv sp rr w nw out e k
    rw [fX12_members_L4] at e
    refine mm_T.seg (f' := (7, [some (.int y0), some (.int y1), some (.int y2)], [(.int 8), (.int y2)])) (h' := (107, I, J, mm_rf rv sp rr w nw)) 2 rfl ?_
    refine mm_T.br (c := y2 < 8) (a := ((10, [some (.int y0), some (.int y1), some (.int y2)], []), (107, I, J, mm_rf rv sp rr w nw))) (b := ((24, [some (.int y0), some (.int y1), some (.int y2)], []), (107, I, J, mm_rf rv sp rr w nw))) rfl (fun h488 => ?_) (fun h488 => ?_)
    · rw [if_pos h488] at e
      refine mm_T.seg (f' := (4, [some (.int y0), some (.int (y1 + ((y0 >>> (y2 &&& 31)) &&& 1))), some (.int (y2 + 1))], [])) (h' := (107, I, J, mm_rf rv sp rr w nw)) 10 rfl ?_
      refine mm_T.mask [true, true, true] ?_
      exact ih y0 (y1 + ((y0 >>> (y2 &&& 31)) &&& 1)) (y2 + 1) I J rv sp rr w nw out e k
    · rw [if_neg h488] at e
      cases e
      refine mm_T.mask [false, true, false] ?_
      exact k
set_option maxRecDepth 100000 in
set_option maxHeartbeats 4000000 in
theorem tX12_members (d n : Nat) (x0 : Int32) (I : Nat → Nat → Int32) (J : Nat → Nat → Int64) (rv sp rr w nw : Nat) (out : Int32) (e : fX12_members n x0 = some out) : mm_T none (d + 0) 255 (mm_ent 255 [(.int x0)]) (107, I, J, mm_rf rv sp rr w nw) (fun v h => v = some (.int out) ∧ h = (107, I, J, mm_rf rv sp rr w nw)) := by
  unfold fX12_members at e
  refine mm_T.seg (f' := (4, [some (.int x0), some (.int 0), some (.int 0)], [])) (h' := (107, I, J, mm_rf rv sp rr w nw)) 4 rfl ?_
  refine mm_T.mask [true, true, true] ?_
  obtain ⟨o489, eo489, e⟩ := mm_bind e
  refine tlX12_members_L4 d _ n x0 0 0 I J rv sp rr w nw o489 eo489 ?_
  refine mm_T.seg (f' := (25, [none, some (.int o489), none], [(.int o489)])) (h' := (107, I, J, mm_rf rv sp rr w nw)) 1 rfl ?_
  cases e
  exact mm_T.ret rfl ⟨rfl, rfl⟩
def fX12_fill_L2 (n : Nat) (y1 : Int32) (I : Nat → Nat → Int32) : Option ((Nat → Nat → Int32)) := match n with
  | 0 => none
  | n + 1 => (if y1 < 28 then (if y1 < 0 ∨ 28 ≤ y1.toNatClampNeg then none else (if y1 < 0 ∨ 28 ≤ y1.toNatClampNeg then none else fX12_fill_L2 n (y1 + 1) (mm_up I 85 y1.toNatClampNeg (I 84 y1.toNatClampNeg)))) else some I)
def fX12_fill (n : Nat) (I : Nat → Nat → Int32) : Option ((Nat → Nat → Int32)) := (fX12_fill_L2 n 0 I).bind fun o493 => some o493
set_option maxRecDepth 100000 in
set_option maxHeartbeats 4000000 in
theorem tlX12_fill_L2 (d : Nat) (Q : Option Value → mm_H → Prop) : ∀ (n : Nat) (y1 : Int32) (I : Nat → Nat → Int32) (J : Nat → Nat → Int64) (rv sp rr w nw : Nat), ∀ (out : (Nat → Nat → Int32)), fX12_fill_L2 n y1 I = some out → mm_T none (d + 0) 256 (26, [none, none], []) (107, out, J, mm_rf rv sp rr w nw) Q → mm_T none (d + 0) 256 (2, [some (.ref 62), some (.int y1)], []) (107, I, J, mm_rf rv sp rr w nw) Q := by
  intro n
  induction n with
  | zero =>
    intro y1 I J rv sp rr w nw out e k
    rw [fX12_fill_L2] at e; cases e
  | succ n ih =>
    intro y1 I J rv sp rr w nw out e k
    rw [fX12_fill_L2] at e
    refine mm_T.seg (f' := (5, [some (.ref 62), some (.int y1)], [(.int 28), (.int y1)])) (h' := (107, I, J, mm_rf rv sp rr w nw)) 2 rfl ?_
    refine mm_T.br (c := y1 < 28) (a := ((8, [some (.ref 62), some (.int y1)], []), (107, I, J, mm_rf rv sp rr w nw))) (b := ((26, [some (.ref 62), some (.int y1)], []), (107, I, J, mm_rf rv sp rr w nw))) rfl (fun h490 => ?_) (fun h490 => ?_)
    · rw [if_pos h490] at e
      refine mm_T.seg (f' := (18, [some (.ref 62), some (.int y1)], [(.int y1), (.ref 84), (.int y1), (.ref 85)])) (h' := (107, I, J, mm_rf rv sp rr w nw)) 6 rfl ?_
      by_cases h491 : y1 < 0 ∨ 28 ≤ y1.toNatClampNeg
      · rw [if_pos h491] at e; cases e
      rw [if_neg h491] at e
      refine mm_T.guard (y := ((19, [some (.ref 62), some (.int y1)], [(.int (I 84 y1.toNatClampNeg)), (.int y1), (.ref 85)]), (107, I, J, mm_rf rv sp rr w nw))) rfl h491 ?_
      by_cases h492 : y1 < 0 ∨ 28 ≤ y1.toNatClampNeg
      · rw [if_pos h492] at e; cases e
      rw [if_neg h492] at e
      refine mm_T.guard (y := ((20, [some (.ref 62), some (.int y1)], []), (107, (mm_up I 85 y1.toNatClampNeg (I 84 y1.toNatClampNeg)), J, mm_rf rv sp rr w nw))) rfl h492 ?_
      refine mm_T.seg (f' := (2, [some (.ref 62), some (.int (y1 + 1))], [])) (h' := (107, (mm_up I 85 y1.toNatClampNeg (I 84 y1.toNatClampNeg)), J, mm_rf rv sp rr w nw)) 2 rfl ?_
      refine mm_T.mask [true, true] ?_
      exact ih (y1 + 1) (mm_up I 85 y1.toNatClampNeg (I 84 y1.toNatClampNeg)) J rv sp rr w nw out e k
    · rw [if_neg h490] at e
      cases e
      refine mm_T.mask [false, false] ?_
      exact k
set_option maxRecDepth 100000 in
set_option maxHeartbeats 4000000 in
theorem tX12_fill (d n : Nat) (I : Nat → Nat → Int32) (J : Nat → Nat → Int64) (rv sp rr w nw : Nat) (out : (Nat → Nat → Int32)) (e : fX12_fill n I = some out) : mm_T none (d + 0) 256 (mm_ent 256 [(.ref 62)]) (107, I, J, mm_rf rv sp rr w nw) (fun v h => v = none ∧ h = (107, out, J, mm_rf rv sp rr w nw)) := by
  unfold fX12_fill at e
  refine mm_T.seg (f' := (2, [some (.ref 62), some (.int 0)], [])) (h' := (107, I, J, mm_rf rv sp rr w nw)) 2 rfl ?_
  refine mm_T.mask [true, true] ?_
  obtain ⟨o493, eo493, e⟩ := mm_bind e
  refine tlX12_fill_L2 d _ n 0 I J rv sp rr w nw o493 eo493 ?_
  cases e
  exact mm_T.ret rfl ⟨rfl, rfl⟩
def fX12_keepAir_L2 (n : Nat) (y1 : Int32) (I : Nat → Nat → Int32) : Option ((Nat → Nat → Int32)) := match n with
  | 0 => none
  | n + 1 => (if y1 < 28 then (if y1 < 0 ∨ 28 ≤ y1.toNatClampNeg then none else (if y1 < 0 ∨ 28 ≤ y1.toNatClampNeg then none else fX12_keepAir_L2 n (y1 + 1) (mm_up I 84 y1.toNatClampNeg (I 85 y1.toNatClampNeg)))) else some I)
def fX12_keepAir (n : Nat) (I : Nat → Nat → Int32) : Option ((Nat → Nat → Int32)) := (fX12_keepAir_L2 n 0 I).bind fun o497 => some o497
set_option maxRecDepth 100000 in
set_option maxHeartbeats 4000000 in
theorem tlX12_keepAir_L2 (d : Nat) (Q : Option Value → mm_H → Prop) : ∀ (n : Nat) (y1 : Int32) (I : Nat → Nat → Int32) (J : Nat → Nat → Int64) (rv sp rr w nw : Nat), ∀ (out : (Nat → Nat → Int32)), fX12_keepAir_L2 n y1 I = some out → mm_T none (d + 0) 257 (26, [none, none], []) (107, out, J, mm_rf rv sp rr w nw) Q → mm_T none (d + 0) 257 (2, [some (.ref 62), some (.int y1)], []) (107, I, J, mm_rf rv sp rr w nw) Q := by
  intro n
  induction n with
  | zero =>
    intro y1 I J rv sp rr w nw out e k
    rw [fX12_keepAir_L2] at e; cases e
  | succ n ih =>
    intro y1 I J rv sp rr w nw out e k
    rw [fX12_keepAir_L2] at e
    refine mm_T.seg (f' := (5, [some (.ref 62), some (.int y1)], [(.int 28), (.int y1)])) (h' := (107, I, J, mm_rf rv sp rr w nw)) 2 rfl ?_
    refine mm_T.br (c := y1 < 28) (a := ((8, [some (.ref 62), some (.int y1)], []), (107, I, J, mm_rf rv sp rr w nw))) (b := ((26, [some (.ref 62), some (.int y1)], []), (107, I, J, mm_rf rv sp rr w nw))) rfl (fun h494 => ?_) (fun h494 => ?_)
    · rw [if_pos h494] at e
      refine mm_T.seg (f' := (18, [some (.ref 62), some (.int y1)], [(.int y1), (.ref 85), (.int y1), (.ref 84)])) (h' := (107, I, J, mm_rf rv sp rr w nw)) 6 rfl ?_
      by_cases h495 : y1 < 0 ∨ 28 ≤ y1.toNatClampNeg
      · rw [if_pos h495] at e; cases e
      rw [if_neg h495] at e
      refine mm_T.guard (y := ((19, [some (.ref 62), some (.int y1)], [(.int (I 85 y1.toNatClampNeg)), (.int y1), (.ref 84)]), (107, I, J, mm_rf rv sp rr w nw))) rfl h495 ?_
      by_cases h496 : y1 < 0 ∨ 28 ≤ y1.toNatClampNeg
      · rw [if_pos h496] at e; cases e
      rw [if_neg h496] at e
      refine mm_T.guard (y := ((20, [some (.ref 62), some (.int y1)], []), (107, (mm_up I 84 y1.toNatClampNeg (I 85 y1.toNatClampNeg)), J, mm_rf rv sp rr w nw))) rfl h496 ?_
      refine mm_T.seg (f' := (2, [some (.ref 62), some (.int (y1 + 1))], [])) (h' := (107, (mm_up I 84 y1.toNatClampNeg (I 85 y1.toNatClampNeg)), J, mm_rf rv sp rr w nw)) 2 rfl ?_
      refine mm_T.mask [true, true] ?_
      exact ih (y1 + 1) (mm_up I 84 y1.toNatClampNeg (I 85 y1.toNatClampNeg)) J rv sp rr w nw out e k
    · rw [if_neg h494] at e
      cases e
      refine mm_T.mask [false, false] ?_
      exact k
set_option maxRecDepth 100000 in
set_option maxHeartbeats 4000000 in
theorem tX12_keepAir (d n : Nat) (I : Nat → Nat → Int32) (J : Nat → Nat → Int64) (rv sp rr w nw : Nat) (out : (Nat → Nat → Int32)) (e : fX12_keepAir n I = some out) : mm_T none (d + 0) 257 (mm_ent 257 [(.ref 62)]) (107, I, J, mm_rf rv sp rr w nw) (fun v h => v = none ∧ h = (107, out, J, mm_rf rv sp rr w nw)) := by
  unfold fX12_keepAir at e
  refine mm_T.seg (f' := (2, [some (.ref 62), some (.int 0)], [])) (h' := (107, I, J, mm_rf rv sp rr w nw)) 2 rfl ?_
  refine mm_T.mask [true, true] ?_
  obtain ⟨o497, eo497, e⟩ := mm_bind e
  refine tlX12_keepAir_L2 d _ n 0 I J rv sp rr w nw o497 eo497 ?_
  cases e
  exact mm_T.ret rfl ⟨rfl, rfl⟩
def fX12_currentAt (x1 : Int32) (x2 : Int32) (I : Nat → Nat → Int32) : Option (Int32) := (if ((8 * x2) + x1) < 0 ∨ 56 ≤ ((8 * x2) + x1).toNatClampNeg then none else some (I 78 ((8 * x2) + x1).toNatClampNeg))
set_option maxRecDepth 100000 in
set_option maxHeartbeats 4000000 in
theorem tX12_currentAt (d : Nat) (x1 : Int32) (x2 : Int32) (I : Nat → Nat → Int32) (J : Nat → Nat → Int64) (rv sp rr w nw : Nat) (out : Int32) (e : fX12_currentAt x1 x2 I = some out) : mm_T none (d + 0) 258 (mm_ent 258 [(.ref 62), (.int x1), (.int x2)]) (107, I, J, mm_rf rv sp rr w nw) (fun v h => v = some (.int out) ∧ h = (107, I, J, mm_rf rv sp rr w nw)) := by
  unfold fX12_currentAt at e
  refine mm_T.seg (f' := (10, [some (.ref 62), some (.int x1), some (.int x2)], [(.int ((8 * x2) + x1)), (.ref 78)])) (h' := (107, I, J, mm_rf rv sp rr w nw)) 7 rfl ?_
  by_cases h498 : ((8 * x2) + x1) < 0 ∨ 56 ≤ ((8 * x2) + x1).toNatClampNeg
  · rw [if_pos h498] at e; cases e
  rw [if_neg h498] at e
  refine mm_T.guard (y := ((11, [some (.ref 62), some (.int x1), some (.int x2)], [(.int (I 78 ((8 * x2) + x1).toNatClampNeg))]), (107, I, J, mm_rf rv sp rr w nw))) rfl h498 ?_
  cases e
  exact mm_T.ret rfl ⟨rfl, rfl⟩
def fX12_columnBy (x1 : Int32) (x2 : Int32) (x3 : Int32) (x4 : Int32) (I : Nat → Nat → Int32) : Option (Int32) := (fX12_currentAt x1 x2 I).bind fun o499 => some (fX12_within ((x1 + x3) + (x4 * o499)) ((I 62 46) - 1))
set_option maxRecDepth 100000 in
set_option maxHeartbeats 4000000 in
theorem tX12_columnBy (d : Nat) (x1 : Int32) (x2 : Int32) (x3 : Int32) (x4 : Int32) (I : Nat → Nat → Int32) (J : Nat → Nat → Int64) (rv sp rr w nw : Nat) (out : Int32) (e : fX12_columnBy x1 x2 x3 x4 I = some out) : mm_T none (d + 1) 259 (mm_ent 259 [(.ref 62), (.int x1), (.int x2), (.int x3), (.int x4)]) (107, I, J, mm_rf rv sp rr w nw) (fun v h => v = some (.int out) ∧ h = (107, I, J, mm_rf rv sp rr w nw)) := by
  unfold fX12_columnBy at e
  refine mm_T.seg (f' := (8, [some (.ref 62), some (.int x1), some (.int x2), some (.int x3), some (.int x4)], [(.int x2), (.int x1), (.ref 62), (.int x4), (.int (x1 + x3))])) (h' := (107, I, J, mm_rf rv sp rr w nw)) 7 rfl ?_
  obtain ⟨o499, eo499, e⟩ := mm_bind e
  refine mm_T.call (t := 258) (as := [(.ref 62), (.int x1), (.int x2)]) (f' := (11, [some (.ref 62), some (.int x1), some (.int x2), some (.int x3), some (.int x4)], [(.int x4), (.int (x1 + x3))])) rfl (tX12_currentAt (d + 0) x1 x2 I J rv sp rr w nw o499 eo499) (fun v h hq => ?_)
  obtain ⟨rfl, rfl⟩ := hq
  refine mm_T.seg (f' := (19, [some (.ref 62), some (.int x1), some (.int x2), some (.int x3), some (.int x4)], [(.int ((I 62 46) - 1)), (.int ((x1 + x3) + (x4 * o499)))])) (h' := (107, I, J, mm_rf rv sp rr w nw)) 6 rfl ?_
  refine mm_T.call (t := 238) (as := [(.int ((x1 + x3) + (x4 * o499))), (.int ((I 62 46) - 1))]) (f' := (22, [some (.ref 62), some (.int x1), some (.int x2), some (.int x3), some (.int x4)], [])) rfl (tX12_within (d + 0) ((x1 + x3) + (x4 * o499)) ((I 62 46) - 1) I J rv sp rr w nw _ rfl) (fun v h hq => ?_)
  obtain ⟨rfl, rfl⟩ := hq
  cases e
  exact mm_T.ret rfl ⟨rfl, rfl⟩
def fX12_isIron (x1 : Int32) (x2 : Int32) (I : Nat → Nat → Int32) : Option (Int32) := (if ((8 * x2) + x1) < 0 ∨ 56 ≤ ((8 * x2) + x1).toNatClampNeg then none else (if (I 79 ((8 * x2) + x1).toNatClampNeg) = 1 then some 1 else some 0))
set_option maxRecDepth 100000 in
set_option maxHeartbeats 4000000 in
theorem tX12_isIron (d : Nat) (x1 : Int32) (x2 : Int32) (I : Nat → Nat → Int32) (J : Nat → Nat → Int64) (rv sp rr w nw : Nat) (out : Int32) (e : fX12_isIron x1 x2 I = some out) : mm_T none (d + 0) 260 (mm_ent 260 [(.ref 62), (.int x1), (.int x2)]) (107, I, J, mm_rf rv sp rr w nw) (fun v h => v = some (.int out) ∧ h = (107, I, J, mm_rf rv sp rr w nw)) := by
  unfold fX12_isIron at e
  refine mm_T.seg (f' := (10, [some (.ref 62), some (.int x1), some (.int x2)], [(.int ((8 * x2) + x1)), (.ref 79)])) (h' := (107, I, J, mm_rf rv sp rr w nw)) 7 rfl ?_
  by_cases h500 : ((8 * x2) + x1) < 0 ∨ 56 ≤ ((8 * x2) + x1).toNatClampNeg
  · rw [if_pos h500] at e; cases e
  rw [if_neg h500] at e
  refine mm_T.guard (y := ((11, [some (.ref 62), some (.int x1), some (.int x2)], [(.int (I 79 ((8 * x2) + x1).toNatClampNeg))]), (107, I, J, mm_rf rv sp rr w nw))) rfl h500 ?_
  refine mm_T.seg (f' := (12, [some (.ref 62), some (.int x1), some (.int x2)], [(.int 1), (.int (I 79 ((8 * x2) + x1).toNatClampNeg))])) (h' := (107, I, J, mm_rf rv sp rr w nw)) 1 rfl ?_
  refine mm_T.br (c := (I 79 ((8 * x2) + x1).toNatClampNeg) = 1) (a := ((15, [some (.ref 62), some (.int x1), some (.int x2)], []), (107, I, J, mm_rf rv sp rr w nw))) (b := ((19, [some (.ref 62), some (.int x1), some (.int x2)], []), (107, I, J, mm_rf rv sp rr w nw))) rfl (fun h501 => ?_) (fun h501 => ?_)
  · rw [if_pos h501] at e
    refine mm_T.seg (f' := (20, [some (.ref 62), some (.int x1), some (.int x2)], [(.int 1)])) (h' := (107, I, J, mm_rf rv sp rr w nw)) 2 rfl ?_
    cases e
    exact mm_T.ret rfl ⟨rfl, rfl⟩
  · rw [if_neg h501] at e
    refine mm_T.seg (f' := (20, [some (.ref 62), some (.int x1), some (.int x2)], [(.int 0)])) (h' := (107, I, J, mm_rf rv sp rr w nw)) 1 rfl ?_
    cases e
    exact mm_T.ret rfl ⟨rfl, rfl⟩
def fX12_goStroke_J185 (y8 : Int32) (y9 : Int32) (I : Nat → Nat → Int32) : Option (Int32 × (Nat → Nat → Int32)) := some (((fX12_truth y8) + (2 * (fX12_truth y9))), I)
def fX12_goStroke_J151 (y1 : Int32) (y8 : Int32) (y9 : Int32) (u0 : Int32) (u1 : Int32) (I : Nat → Nat → Int32) : Option (Int32 × (Nat → Nat → Int32)) := (if u1 < 0 ∨ 28 ≤ u1.toNatClampNeg then none else (if y9 = 0 then (fX12_goStroke_J185 y8 y9 (mm_up I 85 u1.toNatClampNeg u0)) else (if (12 + y1) < 0 ∨ 28 ≤ (12 + y1).toNatClampNeg then none else (if ((mm_up I 85 u1.toNatClampNeg u0) 85 (12 + y1).toNatClampNeg) < 999 then (if (12 + y1) < 0 ∨ 28 ≤ (12 + y1).toNatClampNeg then none else (if (12 + y1) < 0 ∨ 28 ≤ (12 + y1).toNatClampNeg then none else (fX12_goStroke_J185 y8 y9 (mm_up (mm_up I 85 u1.toNatClampNeg u0) 85 (12 + y1).toNatClampNeg (((mm_up I 85 u1.toNatClampNeg u0) 85 (12 + y1).toNatClampNeg) + 1))))) else (fX12_goStroke_J185 y8 y9 (mm_up I 85 u1.toNatClampNeg u0))))))
def fX12_goStroke_J130 (y1 : Int32) (y7 : Int32) (y8 : Int32) (u0 : Int32) (I : Nat → Nat → Int32) : Option (Int32 × (Nat → Nat → Int32)) := (if u0 = 0 then (fX12_goStroke_J151 y1 y8 u0 y7 (8 + y1) I) else (fX12_goStroke_J151 y1 y8 u0 0 (8 + y1) I))
def fX12_goStroke_J112 (y1 : Int32) (y8 : Int32) (u0 : Int32) (I : Nat → Nat → Int32) : Option (Int32 × (Nat → Nat → Int32)) := (if y1 < 0 ∨ 4 ≤ y1.toNatClampNeg then none else (if (I 82 y1.toNatClampNeg) < u0 then (fX12_goStroke_J130 y1 u0 y8 1 I) else (fX12_goStroke_J130 y1 u0 y8 0 I)))
def fX12_goStroke_J85 (y1 : Int32) (y7 : Int32) (y8 : Int32) (I : Nat → Nat → Int32) : Option (Int32 × (Nat → Nat → Int32)) := (if (16 + y1) < 0 ∨ 28 ≤ (16 + y1).toNatClampNeg then none else (if (16 + y1) < 0 ∨ 28 ≤ (16 + y1).toNatClampNeg then none else (if 99 < y7 then (fX12_goStroke_J112 y1 y8 99 (mm_up I 85 (16 + y1).toNatClampNeg ((I 85 (16 + y1).toNatClampNeg) + 1))) else (fX12_goStroke_J112 y1 y8 y7 (mm_up I 85 (16 + y1).toNatClampNeg ((I 85 (16 + y1).toNatClampNeg) + 1))))))
def fX12_goStroke (n : Nat) (x1 : Int32) (x2 : Int32) (x3 : Int32) (x4 : Int32) (I : Nat → Nat → Int32) : Option (Int32 × (Nat → Nat → Int32)) := (if (4 + x1) < 0 ∨ 28 ≤ (4 + x1).toNatClampNeg then none else (if x1 < 0 ∨ 28 ≤ x1.toNatClampNeg then none else (if (4 + x1) < 0 ∨ 28 ≤ (4 + x1).toNatClampNeg then none else (fX12_columnBy (I 85 x1.toNatClampNeg) (I 85 (4 + x1).toNatClampNeg) x2 x4 I).bind fun o505 => (if (8 + x1) < 0 ∨ 28 ≤ (8 + x1).toNatClampNeg then none else (fX12_hotterOf n x1 I).bind fun o507 => (fX12_isIron o505 ((I 85 (4 + x1).toNatClampNeg) + x3) o507.2).bind fun o508 => (if o508 = 0 then (if x1 < 0 ∨ 28 ≤ x1.toNatClampNeg then none else (if (4 + x1) < 0 ∨ 28 ≤ (4 + x1).toNatClampNeg then none else (fX12_goStroke_J85 x1 ((I 85 (8 + x1).toNatClampNeg) + o507.1) o508 (mm_up (mm_up o507.2 85 x1.toNatClampNeg o505) 85 (4 + x1).toNatClampNeg ((I 85 (4 + x1).toNatClampNeg) + x3))))) else (fX12_goStroke_J85 x1 ((I 85 (8 + x1).toNatClampNeg) + o507.1) o508 o507.2))))))
set_option maxRecDepth 100000 in
set_option maxHeartbeats 4000000 in
theorem tbX12_goStroke_J185 (d : Nat) (y8 : Int32) (y9 : Int32) (I : Nat → Nat → Int32) (J : Nat → Nat → Int64) (rv sp rr w nw : Nat) (out : Int32 × (Nat → Nat → Int32)) (e : fX12_goStroke_J185 y8 y9 I = some out) : mm_T none (d + 3) 261 (185, [none, none, none, none, none, none, none, none, some (.int y8), some (.int y9)], []) (107, I, J, mm_rf rv sp rr w nw) (fun v h => v = some (.int out.1) ∧ h = (107, out.2, J, mm_rf rv sp rr w nw)) := by
  unfold fX12_goStroke_J185 at e
  refine mm_T.seg (f' := (187, [none, none, none, none, none, none, none, none, some (.int y8), some (.int y9)], [(.int y8)])) (h' := (107, I, J, mm_rf rv sp rr w nw)) 1 rfl ?_
  refine mm_T.call (t := 236) (as := [(.int y8)]) (f' := (190, [none, none, none, none, none, none, none, none, some (.int y8), some (.int y9)], [])) rfl (tX12_truth (d + 2) y8 I J rv sp rr w nw _ rfl) (fun v h hq => ?_)
  obtain ⟨rfl, rfl⟩ := hq
  refine mm_T.seg (f' := (193, [none, none, none, none, none, none, none, none, some (.int y8), some (.int y9)], [(.int y9), (.int 2), (.int (fX12_truth y8))])) (h' := (107, I, J, mm_rf rv sp rr w nw)) 2 rfl ?_
  refine mm_T.call (t := 236) (as := [(.int y9)]) (f' := (196, [none, none, none, none, none, none, none, none, some (.int y8), some (.int y9)], [(.int 2), (.int (fX12_truth y8))])) rfl (tX12_truth (d + 2) y9 I J rv sp rr w nw _ rfl) (fun v h hq => ?_)
  obtain ⟨rfl, rfl⟩ := hq
  refine mm_T.seg (f' := (198, [none, none, none, none, none, none, none, none, some (.int y8), some (.int y9)], [(.int ((fX12_truth y8) + (2 * (fX12_truth y9))))])) (h' := (107, I, J, mm_rf rv sp rr w nw)) 2 rfl ?_
  cases e
  exact mm_T.ret rfl ⟨rfl, rfl⟩
set_option maxRecDepth 100000 in
set_option maxHeartbeats 4000000 in
theorem tbX12_goStroke_J151 (d : Nat) (y1 : Int32) (y8 : Int32) (y9 : Int32) (u0 : Int32) (u1 : Int32) (I : Nat → Nat → Int32) (J : Nat → Nat → Int64) (rv sp rr w nw : Nat) (out : Int32 × (Nat → Nat → Int32)) (e : fX12_goStroke_J151 y1 y8 y9 u0 u1 I = some out) : mm_T none (d + 3) 261 (151, [some (.ref 62), some (.int y1), none, none, none, none, none, none, some (.int y8), some (.int y9)], [(.int u0), (.int u1), (.ref 85)]) (107, I, J, mm_rf rv sp rr w nw) (fun v h => v = some (.int out.1) ∧ h = (107, out.2, J, mm_rf rv sp rr w nw)) := by
  unfold fX12_goStroke_J151 at e
  by_cases h518 : u1 < 0 ∨ 28 ≤ u1.toNatClampNeg
  · rw [if_pos h518] at e; cases e
  rw [if_neg h518] at e
  refine mm_T.guard (y := ((152, [some (.ref 62), some (.int y1), none, none, none, none, none, none, some (.int y8), some (.int y9)], []), (107, (mm_up I 85 u1.toNatClampNeg u0), J, mm_rf rv sp rr w nw))) rfl h518 ?_
  refine mm_T.seg (f' := (154, [some (.ref 62), some (.int y1), none, none, none, none, none, none, some (.int y8), some (.int y9)], [(.int y9)])) (h' := (107, (mm_up I 85 u1.toNatClampNeg u0), J, mm_rf rv sp rr w nw)) 1 rfl ?_
  refine mm_T.br (c := y9 = 0) (a := ((185, [some (.ref 62), some (.int y1), none, none, none, none, none, none, some (.int y8), some (.int y9)], []), (107, (mm_up I 85 u1.toNatClampNeg u0), J, mm_rf rv sp rr w nw))) (b := ((157, [some (.ref 62), some (.int y1), none, none, none, none, none, none, some (.int y8), some (.int y9)], []), (107, (mm_up I 85 u1.toNatClampNeg u0), J, mm_rf rv sp rr w nw))) rfl (fun h519 => ?_) (fun h519 => ?_)
  · rw [if_pos h519] at e
    refine mm_T.mask [false, false, false, false, false, false, false, false, true, true] ?_
    exact tbX12_goStroke_J185 d y8 y9 (mm_up I 85 u1.toNatClampNeg u0) J rv sp rr w nw out e
  · rw [if_neg h519] at e
    refine mm_T.seg (f' := (165, [some (.ref 62), some (.int y1), none, none, none, none, none, none, some (.int y8), some (.int y9)], [(.int (12 + y1)), (.ref 85)])) (h' := (107, (mm_up I 85 u1.toNatClampNeg u0), J, mm_rf rv sp rr w nw)) 5 rfl ?_
    by_cases h520 : (12 + y1) < 0 ∨ 28 ≤ (12 + y1).toNatClampNeg
    · rw [if_pos h520] at e; cases e
    rw [if_neg h520] at e
    refine mm_T.guard (y := ((166, [some (.ref 62), some (.int y1), none, none, none, none, none, none, some (.int y8), some (.int y9)], [(.int ((mm_up I 85 u1.toNatClampNeg u0) 85 (12 + y1).toNatClampNeg))]), (107, (mm_up I 85 u1.toNatClampNeg u0), J, mm_rf rv sp rr w nw))) rfl h520 ?_
    refine mm_T.seg (f' := (169, [some (.ref 62), some (.int y1), none, none, none, none, none, none, some (.int y8), some (.int y9)], [(.int 999), (.int ((mm_up I 85 u1.toNatClampNeg u0) 85 (12 + y1).toNatClampNeg))])) (h' := (107, (mm_up I 85 u1.toNatClampNeg u0), J, mm_rf rv sp rr w nw)) 1 rfl ?_
    refine mm_T.br (c := ((mm_up I 85 u1.toNatClampNeg u0) 85 (12 + y1).toNatClampNeg) < 999) (a := ((172, [some (.ref 62), some (.int y1), none, none, none, none, none, none, some (.int y8), some (.int y9)], []), (107, (mm_up I 85 u1.toNatClampNeg u0), J, mm_rf rv sp rr w nw))) (b := ((185, [some (.ref 62), some (.int y1), none, none, none, none, none, none, some (.int y8), some (.int y9)], []), (107, (mm_up I 85 u1.toNatClampNeg u0), J, mm_rf rv sp rr w nw))) rfl (fun h521 => ?_) (fun h521 => ?_)
    · rw [if_pos h521] at e
      refine mm_T.seg (f' := (181, [some (.ref 62), some (.int y1), none, none, none, none, none, none, some (.int y8), some (.int y9)], [(.int (12 + y1)), (.ref 85), (.int (12 + y1)), (.ref 85)])) (h' := (107, (mm_up I 85 u1.toNatClampNeg u0), J, mm_rf rv sp rr w nw)) 6 rfl ?_
      by_cases h522 : (12 + y1) < 0 ∨ 28 ≤ (12 + y1).toNatClampNeg
      · rw [if_pos h522] at e; cases e
      rw [if_neg h522] at e
      refine mm_T.guard (y := ((182, [some (.ref 62), some (.int y1), none, none, none, none, none, none, some (.int y8), some (.int y9)], [(.int ((mm_up I 85 u1.toNatClampNeg u0) 85 (12 + y1).toNatClampNeg)), (.int (12 + y1)), (.ref 85)]), (107, (mm_up I 85 u1.toNatClampNeg u0), J, mm_rf rv sp rr w nw))) rfl h522 ?_
      refine mm_T.seg (f' := (184, [some (.ref 62), some (.int y1), none, none, none, none, none, none, some (.int y8), some (.int y9)], [(.int (((mm_up I 85 u1.toNatClampNeg u0) 85 (12 + y1).toNatClampNeg) + 1)), (.int (12 + y1)), (.ref 85)])) (h' := (107, (mm_up I 85 u1.toNatClampNeg u0), J, mm_rf rv sp rr w nw)) 2 rfl ?_
      by_cases h523 : (12 + y1) < 0 ∨ 28 ≤ (12 + y1).toNatClampNeg
      · rw [if_pos h523] at e; cases e
      rw [if_neg h523] at e
      refine mm_T.guard (y := ((185, [some (.ref 62), some (.int y1), none, none, none, none, none, none, some (.int y8), some (.int y9)], []), (107, (mm_up (mm_up I 85 u1.toNatClampNeg u0) 85 (12 + y1).toNatClampNeg (((mm_up I 85 u1.toNatClampNeg u0) 85 (12 + y1).toNatClampNeg) + 1)), J, mm_rf rv sp rr w nw))) rfl h523 ?_
      refine mm_T.mask [false, false, false, false, false, false, false, false, true, true] ?_
      exact tbX12_goStroke_J185 d y8 y9 (mm_up (mm_up I 85 u1.toNatClampNeg u0) 85 (12 + y1).toNatClampNeg (((mm_up I 85 u1.toNatClampNeg u0) 85 (12 + y1).toNatClampNeg) + 1)) J rv sp rr w nw out e
    · rw [if_neg h521] at e
      refine mm_T.mask [false, false, false, false, false, false, false, false, true, true] ?_
      exact tbX12_goStroke_J185 d y8 y9 (mm_up I 85 u1.toNatClampNeg u0) J rv sp rr w nw out e
set_option maxRecDepth 100000 in
set_option maxHeartbeats 4000000 in
theorem tbX12_goStroke_J130 (d : Nat) (y1 : Int32) (y7 : Int32) (y8 : Int32) (u0 : Int32) (I : Nat → Nat → Int32) (J : Nat → Nat → Int64) (rv sp rr w nw : Nat) (out : Int32 × (Nat → Nat → Int32)) (e : fX12_goStroke_J130 y1 y7 y8 u0 I = some out) : mm_T none (d + 3) 261 (130, [some (.ref 62), some (.int y1), none, none, none, none, none, some (.int y7), some (.int y8), none], [(.int u0)]) (107, I, J, mm_rf rv sp rr w nw) (fun v h => v = some (.int out.1) ∧ h = (107, out.2, J, mm_rf rv sp rr w nw)) := by
  unfold fX12_goStroke_J130 at e
  refine mm_T.seg (f' := (142, [some (.ref 62), some (.int y1), none, none, none, none, none, some (.int y7), some (.int y8), some (.int u0)], [(.int u0), (.int (8 + y1)), (.ref 85)])) (h' := (107, I, J, mm_rf rv sp rr w nw)) 7 rfl ?_
  refine mm_T.br (c := u0 = 0) (a := ((149, [some (.ref 62), some (.int y1), none, none, none, none, none, some (.int y7), some (.int y8), some (.int u0)], [(.int (8 + y1)), (.ref 85)]), (107, I, J, mm_rf rv sp rr w nw))) (b := ((145, [some (.ref 62), some (.int y1), none, none, none, none, none, some (.int y7), some (.int y8), some (.int u0)], [(.int (8 + y1)), (.ref 85)]), (107, I, J, mm_rf rv sp rr w nw))) rfl (fun h517 => ?_) (fun h517 => ?_)
  · rw [if_pos h517] at e
    refine mm_T.seg (f' := (151, [some (.ref 62), some (.int y1), none, none, none, none, none, some (.int y7), some (.int y8), some (.int u0)], [(.int y7), (.int (8 + y1)), (.ref 85)])) (h' := (107, I, J, mm_rf rv sp rr w nw)) 1 rfl ?_
    refine mm_T.mask [true, true, false, false, false, false, false, false, true, true] ?_
    exact tbX12_goStroke_J151 d y1 y8 u0 y7 (8 + y1) I J rv sp rr w nw out e
  · rw [if_neg h517] at e
    refine mm_T.seg (f' := (151, [some (.ref 62), some (.int y1), none, none, none, none, none, some (.int y7), some (.int y8), some (.int u0)], [(.int 0), (.int (8 + y1)), (.ref 85)])) (h' := (107, I, J, mm_rf rv sp rr w nw)) 2 rfl ?_
    refine mm_T.mask [true, true, false, false, false, false, false, false, true, true] ?_
    exact tbX12_goStroke_J151 d y1 y8 u0 0 (8 + y1) I J rv sp rr w nw out e
set_option maxRecDepth 100000 in
set_option maxHeartbeats 4000000 in
theorem tbX12_goStroke_J112 (d : Nat) (y1 : Int32) (y8 : Int32) (u0 : Int32) (I : Nat → Nat → Int32) (J : Nat → Nat → Int64) (rv sp rr w nw : Nat) (out : Int32 × (Nat → Nat → Int32)) (e : fX12_goStroke_J112 y1 y8 u0 I = some out) : mm_T none (d + 3) 261 (112, [some (.ref 62), some (.int y1), none, none, none, none, none, none, some (.int y8), none], [(.int u0)]) (107, I, J, mm_rf rv sp rr w nw) (fun v h => v = some (.int out.1) ∧ h = (107, out.2, J, mm_rf rv sp rr w nw)) := by
  unfold fX12_goStroke_J112 at e
  refine mm_T.seg (f' := (121, [some (.ref 62), some (.int y1), none, none, none, none, none, some (.int u0), some (.int y8), none], [(.int y1), (.ref 82), (.int u0)])) (h' := (107, I, J, mm_rf rv sp rr w nw)) 5 rfl ?_
  by_cases h515 : y1 < 0 ∨ 4 ≤ y1.toNatClampNeg
  · rw [if_pos h515] at e; cases e
  rw [if_neg h515] at e
  refine mm_T.guard (y := ((122, [some (.ref 62), some (.int y1), none, none, none, none, none, some (.int u0), some (.int y8), none], [(.int (I 82 y1.toNatClampNeg)), (.int u0)]), (107, I, J, mm_rf rv sp rr w nw))) rfl h515 ?_
  refine mm_T.br (c := (I 82 y1.toNatClampNeg) < u0) (a := ((125, [some (.ref 62), some (.int y1), none, none, none, none, none, some (.int u0), some (.int y8), none], []), (107, I, J, mm_rf rv sp rr w nw))) (b := ((129, [some (.ref 62), some (.int y1), none, none, none, none, none, some (.int u0), some (.int y8), none], []), (107, I, J, mm_rf rv sp rr w nw))) rfl (fun h516 => ?_) (fun h516 => ?_)
  · rw [if_pos h516] at e
    refine mm_T.seg (f' := (130, [some (.ref 62), some (.int y1), none, none, none, none, none, some (.int u0), some (.int y8), none], [(.int 1)])) (h' := (107, I, J, mm_rf rv sp rr w nw)) 2 rfl ?_
    refine mm_T.mask [true, true, false, false, false, false, false, true, true, false] ?_
    exact tbX12_goStroke_J130 d y1 u0 y8 1 I J rv sp rr w nw out e
  · rw [if_neg h516] at e
    refine mm_T.seg (f' := (130, [some (.ref 62), some (.int y1), none, none, none, none, none, some (.int u0), some (.int y8), none], [(.int 0)])) (h' := (107, I, J, mm_rf rv sp rr w nw)) 1 rfl ?_
    refine mm_T.mask [true, true, false, false, false, false, false, true, true, false] ?_
    exact tbX12_goStroke_J130 d y1 u0 y8 0 I J rv sp rr w nw out e
set_option maxRecDepth 100000 in
set_option maxHeartbeats 4000000 in
theorem tbX12_goStroke_J85 (d : Nat) (y1 : Int32) (y7 : Int32) (y8 : Int32) (I : Nat → Nat → Int32) (J : Nat → Nat → Int64) (rv sp rr w nw : Nat) (out : Int32 × (Nat → Nat → Int32)) (e : fX12_goStroke_J85 y1 y7 y8 I = some out) : mm_T none (d + 3) 261 (85, [some (.ref 62), some (.int y1), none, none, none, none, none, some (.int y7), some (.int y8), none], []) (107, I, J, mm_rf rv sp rr w nw) (fun v h => v = some (.int out.1) ∧ h = (107, out.2, J, mm_rf rv sp rr w nw)) := by
  unfold fX12_goStroke_J85 at e
  refine mm_T.seg (f' := (94, [some (.ref 62), some (.int y1), none, none, none, none, none, some (.int y7), some (.int y8), none], [(.int (16 + y1)), (.ref 85), (.int (16 + y1)), (.ref 85)])) (h' := (107, I, J, mm_rf rv sp rr w nw)) 6 rfl ?_
  by_cases h512 : (16 + y1) < 0 ∨ 28 ≤ (16 + y1).toNatClampNeg
  · rw [if_pos h512] at e; cases e
  rw [if_neg h512] at e
  refine mm_T.guard (y := ((95, [some (.ref 62), some (.int y1), none, none, none, none, none, some (.int y7), some (.int y8), none], [(.int (I 85 (16 + y1).toNatClampNeg)), (.int (16 + y1)), (.ref 85)]), (107, I, J, mm_rf rv sp rr w nw))) rfl h512 ?_
  refine mm_T.seg (f' := (97, [some (.ref 62), some (.int y1), none, none, none, none, none, some (.int y7), some (.int y8), none], [(.int ((I 85 (16 + y1).toNatClampNeg) + 1)), (.int (16 + y1)), (.ref 85)])) (h' := (107, I, J, mm_rf rv sp rr w nw)) 2 rfl ?_
  by_cases h513 : (16 + y1) < 0 ∨ 28 ≤ (16 + y1).toNatClampNeg
  · rw [if_pos h513] at e; cases e
  rw [if_neg h513] at e
  refine mm_T.guard (y := ((98, [some (.ref 62), some (.int y1), none, none, none, none, none, some (.int y7), some (.int y8), none], []), (107, (mm_up I 85 (16 + y1).toNatClampNeg ((I 85 (16 + y1).toNatClampNeg) + 1)), J, mm_rf rv sp rr w nw))) rfl h513 ?_
  refine mm_T.seg (f' := (102, [some (.ref 62), some (.int y1), none, none, none, none, none, some (.int y7), some (.int y8), none], [(.int 99), (.int y7)])) (h' := (107, (mm_up I 85 (16 + y1).toNatClampNeg ((I 85 (16 + y1).toNatClampNeg) + 1)), J, mm_rf rv sp rr w nw)) 2 rfl ?_
  refine mm_T.br (c := 99 < y7) (a := ((105, [some (.ref 62), some (.int y1), none, none, none, none, none, some (.int y7), some (.int y8), none], []), (107, (mm_up I 85 (16 + y1).toNatClampNeg ((I 85 (16 + y1).toNatClampNeg) + 1)), J, mm_rf rv sp rr w nw))) (b := ((110, [some (.ref 62), some (.int y1), none, none, none, none, none, some (.int y7), some (.int y8), none], []), (107, (mm_up I 85 (16 + y1).toNatClampNeg ((I 85 (16 + y1).toNatClampNeg) + 1)), J, mm_rf rv sp rr w nw))) rfl (fun h514 => ?_) (fun h514 => ?_)
  · rw [if_pos h514] at e
    refine mm_T.seg (f' := (112, [some (.ref 62), some (.int y1), none, none, none, none, none, some (.int y7), some (.int y8), none], [(.int 99)])) (h' := (107, (mm_up I 85 (16 + y1).toNatClampNeg ((I 85 (16 + y1).toNatClampNeg) + 1)), J, mm_rf rv sp rr w nw)) 2 rfl ?_
    refine mm_T.mask [true, true, false, false, false, false, false, false, true, false] ?_
    exact tbX12_goStroke_J112 d y1 y8 99 (mm_up I 85 (16 + y1).toNatClampNeg ((I 85 (16 + y1).toNatClampNeg) + 1)) J rv sp rr w nw out e
  · rw [if_neg h514] at e
    refine mm_T.seg (f' := (112, [some (.ref 62), some (.int y1), none, none, none, none, none, some (.int y7), some (.int y8), none], [(.int y7)])) (h' := (107, (mm_up I 85 (16 + y1).toNatClampNeg ((I 85 (16 + y1).toNatClampNeg) + 1)), J, mm_rf rv sp rr w nw)) 1 rfl ?_
    refine mm_T.mask [true, true, false, false, false, false, false, false, true, false] ?_
    exact tbX12_goStroke_J112 d y1 y8 y7 (mm_up I 85 (16 + y1).toNatClampNeg ((I 85 (16 + y1).toNatClampNeg) + 1)) J rv sp rr w nw out e
set_option maxRecDepth 100000 in
set_option maxHeartbeats 4000000 in
theorem tX12_goStroke (d n : Nat) (x1 : Int32) (x2 : Int32) (x3 : Int32) (x4 : Int32) (I : Nat → Nat → Int32) (J : Nat → Nat → Int64) (rv sp rr w nw : Nat) (out : Int32 × (Nat → Nat → Int32)) (e : fX12_goStroke n x1 x2 x3 x4 I = some out) : mm_T none (d + 3) 261 (mm_ent 261 [(.ref 62), (.int x1), (.int x2), (.int x3), (.int x4)]) (107, I, J, mm_rf rv sp rr w nw) (fun v h => v = some (.int out.1) ∧ h = (107, out.2, J, mm_rf rv sp rr w nw)) := by
  unfold fX12_goStroke at e
  refine mm_T.seg (f' := (7, [some (.ref 62), some (.int x1), some (.int x2), some (.int x3), some (.int x4), none, none, none, none, none], [(.int (4 + x1)), (.ref 85)])) (h' := (107, I, J, mm_rf rv sp rr w nw)) 5 rfl ?_
  by_cases h502 : (4 + x1) < 0 ∨ 28 ≤ (4 + x1).toNatClampNeg
  · rw [if_pos h502] at e; cases e
  rw [if_neg h502] at e
  refine mm_T.guard (y := ((8, [some (.ref 62), some (.int x1), some (.int x2), some (.int x3), some (.int x4), none, none, none, none, none], [(.int (I 85 (4 + x1).toNatClampNeg))]), (107, I, J, mm_rf rv sp rr w nw))) rfl h502 ?_
  refine mm_T.seg (f' := (18, [some (.ref 62), some (.int x1), some (.int x2), some (.int x3), some (.int x4), some (.int ((I 85 (4 + x1).toNatClampNeg) + x3)), none, none, none, none], [(.int x1), (.ref 85), (.ref 62)])) (h' := (107, I, J, mm_rf rv sp rr w nw)) 7 rfl ?_
  by_cases h503 : x1 < 0 ∨ 28 ≤ x1.toNatClampNeg
  · rw [if_pos h503] at e; cases e
  rw [if_neg h503] at e
  refine mm_T.guard (y := ((19, [some (.ref 62), some (.int x1), some (.int x2), some (.int x3), some (.int x4), some (.int ((I 85 (4 + x1).toNatClampNeg) + x3)), none, none, none, none], [(.int (I 85 x1.toNatClampNeg)), (.ref 62)]), (107, I, J, mm_rf rv sp rr w nw))) rfl h503 ?_
  refine mm_T.seg (f' := (26, [some (.ref 62), some (.int x1), some (.int x2), some (.int x3), some (.int x4), some (.int ((I 85 (4 + x1).toNatClampNeg) + x3)), none, none, none, none], [(.int (4 + x1)), (.ref 85), (.int (I 85 x1.toNatClampNeg)), (.ref 62)])) (h' := (107, I, J, mm_rf rv sp rr w nw)) 5 rfl ?_
  by_cases h504 : (4 + x1) < 0 ∨ 28 ≤ (4 + x1).toNatClampNeg
  · rw [if_pos h504] at e; cases e
  rw [if_neg h504] at e
  refine mm_T.guard (y := ((27, [some (.ref 62), some (.int x1), some (.int x2), some (.int x3), some (.int x4), some (.int ((I 85 (4 + x1).toNatClampNeg) + x3)), none, none, none, none], [(.int (I 85 (4 + x1).toNatClampNeg)), (.int (I 85 x1.toNatClampNeg)), (.ref 62)]), (107, I, J, mm_rf rv sp rr w nw))) rfl h504 ?_
  refine mm_T.seg (f' := (30, [some (.ref 62), some (.int x1), some (.int x2), some (.int x3), some (.int x4), some (.int ((I 85 (4 + x1).toNatClampNeg) + x3)), none, none, none, none], [(.int x4), (.int x2), (.int (I 85 (4 + x1).toNatClampNeg)), (.int (I 85 x1.toNatClampNeg)), (.ref 62)])) (h' := (107, I, J, mm_rf rv sp rr w nw)) 2 rfl ?_
  obtain ⟨o505, eo505, e⟩ := mm_bind e
  refine mm_T.call (t := 259) (as := [(.ref 62), (.int (I 85 x1.toNatClampNeg)), (.int (I 85 (4 + x1).toNatClampNeg)), (.int x2), (.int x4)]) (f' := (33, [some (.ref 62), some (.int x1), some (.int x2), some (.int x3), some (.int x4), some (.int ((I 85 (4 + x1).toNatClampNeg) + x3)), none, none, none, none], [])) rfl (tX12_columnBy (d + 1) (I 85 x1.toNatClampNeg) (I 85 (4 + x1).toNatClampNeg) x2 x4 I J rv sp rr w nw o505 eo505) (fun v h hq => ?_)
  obtain ⟨rfl, rfl⟩ := hq
  refine mm_T.seg (f' := (43, [some (.ref 62), some (.int x1), some (.int x2), some (.int x3), some (.int x4), some (.int ((I 85 (4 + x1).toNatClampNeg) + x3)), some (.int o505), none, none, none], [(.int (8 + x1)), (.ref 85)])) (h' := (107, I, J, mm_rf rv sp rr w nw)) 6 rfl ?_
  by_cases h506 : (8 + x1) < 0 ∨ 28 ≤ (8 + x1).toNatClampNeg
  · rw [if_pos h506] at e; cases e
  rw [if_neg h506] at e
  refine mm_T.guard (y := ((44, [some (.ref 62), some (.int x1), some (.int x2), some (.int x3), some (.int x4), some (.int ((I 85 (4 + x1).toNatClampNeg) + x3)), some (.int o505), none, none, none], [(.int (I 85 (8 + x1).toNatClampNeg))]), (107, I, J, mm_rf rv sp rr w nw))) rfl h506 ?_
  refine mm_T.seg (f' := (46, [some (.ref 62), some (.int x1), some (.int x2), some (.int x3), some (.int x4), some (.int ((I 85 (4 + x1).toNatClampNeg) + x3)), some (.int o505), none, none, none], [(.int x1), (.ref 62), (.int (I 85 (8 + x1).toNatClampNeg))])) (h' := (107, I, J, mm_rf rv sp rr w nw)) 2 rfl ?_
  obtain ⟨o507, eo507, e⟩ := mm_bind e
  refine mm_T.call (t := 241) (as := [(.ref 62), (.int x1)]) (f' := (49, [some (.ref 62), some (.int x1), some (.int x2), some (.int x3), some (.int x4), some (.int ((I 85 (4 + x1).toNatClampNeg) + x3)), some (.int o505), none, none, none], [(.int (I 85 (8 + x1).toNatClampNeg))])) rfl (tX12_hotterOf (d + 0) n x1 I J rv sp rr w nw o507 eo507) (fun v h hq => ?_)
  obtain ⟨rfl, rfl⟩ := hq
  refine mm_T.seg (f' := (57, [some (.ref 62), some (.int x1), some (.int x2), some (.int x3), some (.int x4), some (.int ((I 85 (4 + x1).toNatClampNeg) + x3)), some (.int o505), some (.int ((I 85 (8 + x1).toNatClampNeg) + o507.1)), none, none], [(.int ((I 85 (4 + x1).toNatClampNeg) + x3)), (.int o505), (.ref 62)])) (h' := (107, o507.2, J, mm_rf rv sp rr w nw)) 5 rfl ?_
  obtain ⟨o508, eo508, e⟩ := mm_bind e
  refine mm_T.call (t := 260) (as := [(.ref 62), (.int o505), (.int ((I 85 (4 + x1).toNatClampNeg) + x3))]) (f' := (60, [some (.ref 62), some (.int x1), some (.int x2), some (.int x3), some (.int x4), some (.int ((I 85 (4 + x1).toNatClampNeg) + x3)), some (.int o505), some (.int ((I 85 (8 + x1).toNatClampNeg) + o507.1)), none, none], [])) rfl (tX12_isIron (d + 2) o505 ((I 85 (4 + x1).toNatClampNeg) + x3) o507.2 J rv sp rr w nw o508 eo508) (fun v h hq => ?_)
  obtain ⟨rfl, rfl⟩ := hq
  refine mm_T.seg (f' := (64, [some (.ref 62), some (.int x1), some (.int x2), some (.int x3), some (.int x4), some (.int ((I 85 (4 + x1).toNatClampNeg) + x3)), some (.int o505), some (.int ((I 85 (8 + x1).toNatClampNeg) + o507.1)), some (.int o508), none], [(.int o508)])) (h' := (107, o507.2, J, mm_rf rv sp rr w nw)) 2 rfl ?_
  refine mm_T.br (c := o508 = 0) (a := ((67, [some (.ref 62), some (.int x1), some (.int x2), some (.int x3), some (.int x4), some (.int ((I 85 (4 + x1).toNatClampNeg) + x3)), some (.int o505), some (.int ((I 85 (8 + x1).toNatClampNeg) + o507.1)), some (.int o508), none], []), (107, o507.2, J, mm_rf rv sp rr w nw))) (b := ((85, [some (.ref 62), some (.int x1), some (.int x2), some (.int x3), some (.int x4), some (.int ((I 85 (4 + x1).toNatClampNeg) + x3)), some (.int o505), some (.int ((I 85 (8 + x1).toNatClampNeg) + o507.1)), some (.int o508), none], []), (107, o507.2, J, mm_rf rv sp rr w nw))) rfl (fun h509 => ?_) (fun h509 => ?_)
  · rw [if_pos h509] at e
    refine mm_T.seg (f' := (74, [some (.ref 62), some (.int x1), some (.int x2), some (.int x3), some (.int x4), some (.int ((I 85 (4 + x1).toNatClampNeg) + x3)), some (.int o505), some (.int ((I 85 (8 + x1).toNatClampNeg) + o507.1)), some (.int o508), none], [(.int o505), (.int x1), (.ref 85)])) (h' := (107, o507.2, J, mm_rf rv sp rr w nw)) 4 rfl ?_
    by_cases h510 : x1 < 0 ∨ 28 ≤ x1.toNatClampNeg
    · rw [if_pos h510] at e; cases e
    rw [if_neg h510] at e
    refine mm_T.guard (y := ((75, [some (.ref 62), some (.int x1), some (.int x2), some (.int x3), some (.int x4), some (.int ((I 85 (4 + x1).toNatClampNeg) + x3)), some (.int o505), some (.int ((I 85 (8 + x1).toNatClampNeg) + o507.1)), some (.int o508), none], []), (107, (mm_up o507.2 85 x1.toNatClampNeg o505), J, mm_rf rv sp rr w nw))) rfl h510 ?_
    refine mm_T.seg (f' := (84, [some (.ref 62), some (.int x1), some (.int x2), some (.int x3), some (.int x4), some (.int ((I 85 (4 + x1).toNatClampNeg) + x3)), some (.int o505), some (.int ((I 85 (8 + x1).toNatClampNeg) + o507.1)), some (.int o508), none], [(.int ((I 85 (4 + x1).toNatClampNeg) + x3)), (.int (4 + x1)), (.ref 85)])) (h' := (107, (mm_up o507.2 85 x1.toNatClampNeg o505), J, mm_rf rv sp rr w nw)) 6 rfl ?_
    by_cases h511 : (4 + x1) < 0 ∨ 28 ≤ (4 + x1).toNatClampNeg
    · rw [if_pos h511] at e; cases e
    rw [if_neg h511] at e
    refine mm_T.guard (y := ((85, [some (.ref 62), some (.int x1), some (.int x2), some (.int x3), some (.int x4), some (.int ((I 85 (4 + x1).toNatClampNeg) + x3)), some (.int o505), some (.int ((I 85 (8 + x1).toNatClampNeg) + o507.1)), some (.int o508), none], []), (107, (mm_up (mm_up o507.2 85 x1.toNatClampNeg o505) 85 (4 + x1).toNatClampNeg ((I 85 (4 + x1).toNatClampNeg) + x3)), J, mm_rf rv sp rr w nw))) rfl h511 ?_
    refine mm_T.mask [true, true, false, false, false, false, false, true, true, false] ?_
    exact tbX12_goStroke_J85 d x1 ((I 85 (8 + x1).toNatClampNeg) + o507.1) o508 (mm_up (mm_up o507.2 85 x1.toNatClampNeg o505) 85 (4 + x1).toNatClampNeg ((I 85 (4 + x1).toNatClampNeg) + x3)) J rv sp rr w nw out e
  · rw [if_neg h509] at e
    refine mm_T.mask [true, true, false, false, false, false, false, true, true, false] ?_
    exact tbX12_goStroke_J85 d x1 ((I 85 (8 + x1).toNatClampNeg) + o507.1) o508 o507.2 J rv sp rr w nw out e
def fX12_loadsAt_L4 (n : Nat) (y1 : Int32) (y2 : Int32) (y3 : Int32) (I : Nat → Nat → Int32) : Option (Int32) := match n with
  | 0 => none
  | n + 1 => (if y3 < (I 62 49) then (if (20 + y3) < 0 ∨ 28 ≤ (20 + y3).toNatClampNeg then none else (if (I 85 (20 + y3).toNatClampNeg) = y1 then fX12_loadsAt_L4 n y1 (y2 ||| ((fX12_truth 1) <<< (y3 &&& 31))) (y3 + 1) I else fX12_loadsAt_L4 n y1 (y2 ||| ((fX12_truth 0) <<< (y3 &&& 31))) (y3 + 1) I)) else some y2)
def fX12_loadsAt (n : Nat) (x1 : Int32) (I : Nat → Nat → Int32) : Option (Int32) := (fX12_loadsAt_L4 n x1 0 0 I).bind fun o527 => some o527
set_option maxRecDepth 100000 in
set_option maxHeartbeats 4000000 in
theorem tlX12_loadsAt_L4 (d : Nat) (Q : Option Value → mm_H → Prop) : ∀ (n : Nat) (y1 : Int32) (y2 : Int32) (y3 : Int32) (I : Nat → Nat → Int32) (J : Nat → Nat → Int64) (rv sp rr w nw : Nat), ∀ (out : Int32), fX12_loadsAt_L4 n y1 y2 y3 I = some out → mm_T none (d + 1) 262 (44, [none, none, some (.int out), none], []) (107, I, J, mm_rf rv sp rr w nw) Q → mm_T none (d + 1) 262 (4, [some (.ref 62), some (.int y1), some (.int y2), some (.int y3)], []) (107, I, J, mm_rf rv sp rr w nw) Q := by
  intro n
  induction n with
  | zero =>
    intro y1 y2 y3 I J rv sp rr w nw out e k
    rw [fX12_loadsAt_L4] at e; cases e
  | succ n ih =>
    intro y1 y2 y3 I J rv sp rr w nw out e k
    rw [fX12_loadsAt_L4] at e
    refine mm_T.seg (f' := (9, [some (.ref 62), some (.int y1), some (.int y2), some (.int y3)], [(.int (I 62 49)), (.int y3)])) (h' := (107, I, J, mm_rf rv sp rr w nw)) 3 rfl ?_
    refine mm_T.br (c := y3 < (I 62 49)) (a := ((12, [some (.ref 62), some (.int y1), some (.int y2), some (.int y3)], []), (107, I, J, mm_rf rv sp rr w nw))) (b := ((44, [some (.ref 62), some (.int y1), some (.int y2), some (.int y3)], []), (107, I, J, mm_rf rv sp rr w nw))) rfl (fun h524 => ?_) (fun h524 => ?_)
    · rw [if_pos h524] at e
      refine mm_T.seg (f' := (21, [some (.ref 62), some (.int y1), some (.int y2), some (.int y3)], [(.int (20 + y3)), (.ref 85), (.int y2)])) (h' := (107, I, J, mm_rf rv sp rr w nw)) 6 rfl ?_
      by_cases h525 : (20 + y3) < 0 ∨ 28 ≤ (20 + y3).toNatClampNeg
      · rw [if_pos h525] at e; cases e
      rw [if_neg h525] at e
      refine mm_T.guard (y := ((22, [some (.ref 62), some (.int y1), some (.int y2), some (.int y3)], [(.int (I 85 (20 + y3).toNatClampNeg)), (.int y2)]), (107, I, J, mm_rf rv sp rr w nw))) rfl h525 ?_
      refine mm_T.seg (f' := (23, [some (.ref 62), some (.int y1), some (.int y2), some (.int y3)], [(.int y1), (.int (I 85 (20 + y3).toNatClampNeg)), (.int y2)])) (h' := (107, I, J, mm_rf rv sp rr w nw)) 1 rfl ?_
      refine mm_T.br (c := (I 85 (20 + y3).toNatClampNeg) = y1) (a := ((26, [some (.ref 62), some (.int y1), some (.int y2), some (.int y3)], [(.int y2)]), (107, I, J, mm_rf rv sp rr w nw))) (b := ((30, [some (.ref 62), some (.int y1), some (.int y2), some (.int y3)], [(.int y2)]), (107, I, J, mm_rf rv sp rr w nw))) rfl (fun h526 => ?_) (fun h526 => ?_)
      · rw [if_pos h526] at e
        refine mm_T.seg (f' := (31, [some (.ref 62), some (.int y1), some (.int y2), some (.int y3)], [(.int 1), (.int y2)])) (h' := (107, I, J, mm_rf rv sp rr w nw)) 2 rfl ?_
        refine mm_T.call (t := 236) (as := [(.int 1)]) (f' := (34, [some (.ref 62), some (.int y1), some (.int y2), some (.int y3)], [(.int y2)])) rfl (tX12_truth (d + 0) 1 I J rv sp rr w nw _ rfl) (fun v h hq => ?_)
        obtain ⟨rfl, rfl⟩ := hq
        refine mm_T.seg (f' := (4, [some (.ref 62), some (.int y1), some (.int (y2 ||| ((fX12_truth 1) <<< (y3 &&& 31)))), some (.int (y3 + 1))], [])) (h' := (107, I, J, mm_rf rv sp rr w nw)) 6 rfl ?_
        refine mm_T.mask [true, true, true, true] ?_
        exact ih y1 (y2 ||| ((fX12_truth 1) <<< (y3 &&& 31))) (y3 + 1) I J rv sp rr w nw out e k
      · rw [if_neg h526] at e
        refine mm_T.seg (f' := (31, [some (.ref 62), some (.int y1), some (.int y2), some (.int y3)], [(.int 0), (.int y2)])) (h' := (107, I, J, mm_rf rv sp rr w nw)) 1 rfl ?_
        refine mm_T.call (t := 236) (as := [(.int 0)]) (f' := (34, [some (.ref 62), some (.int y1), some (.int y2), some (.int y3)], [(.int y2)])) rfl (tX12_truth (d + 0) 0 I J rv sp rr w nw _ rfl) (fun v h hq => ?_)
        obtain ⟨rfl, rfl⟩ := hq
        refine mm_T.seg (f' := (4, [some (.ref 62), some (.int y1), some (.int (y2 ||| ((fX12_truth 0) <<< (y3 &&& 31)))), some (.int (y3 + 1))], [])) (h' := (107, I, J, mm_rf rv sp rr w nw)) 6 rfl ?_
        refine mm_T.mask [true, true, true, true] ?_
        exact ih y1 (y2 ||| ((fX12_truth 0) <<< (y3 &&& 31))) (y3 + 1) I J rv sp rr w nw out e k
    · rw [if_neg h524] at e
      cases e
      refine mm_T.mask [false, false, true, false] ?_
      exact k
set_option maxRecDepth 100000 in
set_option maxHeartbeats 4000000 in
theorem tX12_loadsAt (d n : Nat) (x1 : Int32) (I : Nat → Nat → Int32) (J : Nat → Nat → Int64) (rv sp rr w nw : Nat) (out : Int32) (e : fX12_loadsAt n x1 I = some out) : mm_T none (d + 1) 262 (mm_ent 262 [(.ref 62), (.int x1)]) (107, I, J, mm_rf rv sp rr w nw) (fun v h => v = some (.int out) ∧ h = (107, I, J, mm_rf rv sp rr w nw)) := by
  unfold fX12_loadsAt at e
  refine mm_T.seg (f' := (4, [some (.ref 62), some (.int x1), some (.int 0), some (.int 0)], [])) (h' := (107, I, J, mm_rf rv sp rr w nw)) 4 rfl ?_
  refine mm_T.mask [true, true, true, true] ?_
  obtain ⟨o527, eo527, e⟩ := mm_bind e
  refine tlX12_loadsAt_L4 d _ n x1 0 0 I J rv sp rr w nw o527 eo527 ?_
  refine mm_T.seg (f' := (45, [none, none, some (.int o527), none], [(.int o527)])) (h' := (107, I, J, mm_rf rv sp rr w nw)) 1 rfl ?_
  cases e
  exact mm_T.ret rfl ⟨rfl, rfl⟩
def fX12_board (n : Nat) (x1 : Int32) (x2 : Int32) (I : Nat → Nat → Int32) : Option (Int32 × (Nat → Nat → Int32)) := (fX12_isBoard x1 I).bind fun o528 => (if o528 = 0 then some ((-1), I) else (fX12_fill n I).bind fun o530 => (if x2 = 0 then (if x1 < 0 ∨ 28 ≤ x1.toNatClampNeg then none else some ((o530 85 x1.toNatClampNeg), o530)) else (if x2 = 1 then (if (4 + x1) < 0 ∨ 28 ≤ (4 + x1).toNatClampNeg then none else some ((o530 85 (4 + x1).toNatClampNeg), o530)) else (if x2 = 2 then (if (8 + x1) < 0 ∨ 28 ≤ (8 + x1).toNatClampNeg then none else some ((o530 85 (8 + x1).toNatClampNeg), o530)) else (if x2 = 3 then (if (12 + x1) < 0 ∨ 28 ≤ (12 + x1).toNatClampNeg then none else some ((o530 85 (12 + x1).toNatClampNeg), o530)) else (if x2 = 4 then (if (16 + x1) < 0 ∨ 28 ≤ (16 + x1).toNatClampNeg then none else some ((o530 85 (16 + x1).toNatClampNeg), o530)) else (if x2 = 5 then (if x1 < 0 ∨ 4 ≤ x1.toNatClampNeg then none else some ((o530 80 x1.toNatClampNeg), o530)) else (if x2 = 6 then (if x1 < 0 ∨ 4 ≤ x1.toNatClampNeg then none else some ((o530 82 x1.toNatClampNeg), o530)) else (if x2 = 7 then (fX12_burdenOf n x1 o530).bind fun o546 => some (o546, o530) else (if x2 = 8 then (fX12_loadsAt n x1 o530).bind fun o548 => some (o548, o530) else some ((-1), o530)))))))))))
set_option maxRecDepth 100000 in
set_option maxHeartbeats 4000000 in
theorem tX12_board (d n : Nat) (x1 : Int32) (x2 : Int32) (I : Nat → Nat → Int32) (J : Nat → Nat → Int64) (rv sp rr w nw : Nat) (out : Int32 × (Nat → Nat → Int32)) (e : fX12_board n x1 x2 I = some out) : mm_T none (d + 2) 263 (mm_ent 263 [(.ref 62), (.int x1), (.int x2)]) (107, I, J, mm_rf rv sp rr w nw) (fun v h => v = some (.int out.1) ∧ h = (107, out.2, J, mm_rf rv sp rr w nw)) := by
  unfold fX12_board at e
  refine mm_T.seg (f' := (2, [some (.ref 62), some (.int x1), some (.int x2)], [(.int x1), (.ref 62)])) (h' := (107, I, J, mm_rf rv sp rr w nw)) 2 rfl ?_
  obtain ⟨o528, eo528, e⟩ := mm_bind e
  refine mm_T.call (t := 253) (as := [(.ref 62), (.int x1)]) (f' := (5, [some (.ref 62), some (.int x1), some (.int x2)], [])) rfl (tX12_isBoard (d + 0) x1 I J rv sp rr w nw o528 eo528) (fun v h hq => ?_)
  obtain ⟨rfl, rfl⟩ := hq
  refine mm_T.br (c := o528 = 0) (a := ((8, [some (.ref 62), some (.int x1), some (.int x2)], []), (107, I, J, mm_rf rv sp rr w nw))) (b := ((10, [some (.ref 62), some (.int x1), some (.int x2)], []), (107, I, J, mm_rf rv sp rr w nw))) rfl (fun h529 => ?_) (fun h529 => ?_)
  · rw [if_pos h529] at e
    refine mm_T.seg (f' := (9, [some (.ref 62), some (.int x1), some (.int x2)], [(.int (-1))])) (h' := (107, I, J, mm_rf rv sp rr w nw)) 1 rfl ?_
    cases e
    exact mm_T.ret rfl ⟨rfl, rfl⟩
  · rw [if_neg h529] at e
    refine mm_T.seg (f' := (11, [some (.ref 62), some (.int x1), some (.int x2)], [(.ref 62)])) (h' := (107, I, J, mm_rf rv sp rr w nw)) 1 rfl ?_
    obtain ⟨o530, eo530, e⟩ := mm_bind e
    refine mm_T.call (t := 256) (as := [(.ref 62)]) (f' := (14, [some (.ref 62), some (.int x1), some (.int x2)], [])) rfl (tX12_fill (d + 1) n I J rv sp rr w nw o530 eo530) (fun v h hq => ?_)
    obtain ⟨rfl, rfl⟩ := hq
    refine mm_T.seg (f' := (15, [some (.ref 62), some (.int x1), some (.int x2)], [(.int x2)])) (h' := (107, o530, J, mm_rf rv sp rr w nw)) 1 rfl ?_
    by_cases h531 : x2 = 0
    · rw [if_pos h531] at e
      refine mm_T.step (f' := (64, [some (.ref 62), some (.int x1), some (.int x2)], [])) (h' := (107, o530, J, mm_rf rv sp rr w nw)) (by rw [h531]; rfl) ?_
      refine mm_T.seg (f' := (69, [some (.ref 62), some (.int x1), some (.int x2)], [(.int x1), (.ref 85)])) (h' := (107, o530, J, mm_rf rv sp rr w nw)) 3 rfl ?_
      by_cases h532 : x1 < 0 ∨ 28 ≤ x1.toNatClampNeg
      · rw [if_pos h532] at e; cases e
      rw [if_neg h532] at e
      refine mm_T.guard (y := ((70, [some (.ref 62), some (.int x1), some (.int x2)], [(.int (o530 85 x1.toNatClampNeg))]), (107, o530, J, mm_rf rv sp rr w nw))) rfl h532 ?_
      cases e
      exact mm_T.ret rfl ⟨rfl, rfl⟩
    · rw [if_neg h531] at e
      by_cases h533 : x2 = 1
      · rw [if_pos h533] at e
        refine mm_T.step (f' := (71, [some (.ref 62), some (.int x1), some (.int x2)], [])) (h' := (107, o530, J, mm_rf rv sp rr w nw)) (by rw [h533]; rfl) ?_
        refine mm_T.seg (f' := (78, [some (.ref 62), some (.int x1), some (.int x2)], [(.int (4 + x1)), (.ref 85)])) (h' := (107, o530, J, mm_rf rv sp rr w nw)) 5 rfl ?_
        by_cases h534 : (4 + x1) < 0 ∨ 28 ≤ (4 + x1).toNatClampNeg
        · rw [if_pos h534] at e; cases e
        rw [if_neg h534] at e
        refine mm_T.guard (y := ((79, [some (.ref 62), some (.int x1), some (.int x2)], [(.int (o530 85 (4 + x1).toNatClampNeg))]), (107, o530, J, mm_rf rv sp rr w nw))) rfl h534 ?_
        cases e
        exact mm_T.ret rfl ⟨rfl, rfl⟩
      · rw [if_neg h533] at e
        by_cases h535 : x2 = 2
        · rw [if_pos h535] at e
          refine mm_T.step (f' := (80, [some (.ref 62), some (.int x1), some (.int x2)], [])) (h' := (107, o530, J, mm_rf rv sp rr w nw)) (by rw [h535]; rfl) ?_
          refine mm_T.seg (f' := (88, [some (.ref 62), some (.int x1), some (.int x2)], [(.int (8 + x1)), (.ref 85)])) (h' := (107, o530, J, mm_rf rv sp rr w nw)) 5 rfl ?_
          by_cases h536 : (8 + x1) < 0 ∨ 28 ≤ (8 + x1).toNatClampNeg
          · rw [if_pos h536] at e; cases e
          rw [if_neg h536] at e
          refine mm_T.guard (y := ((89, [some (.ref 62), some (.int x1), some (.int x2)], [(.int (o530 85 (8 + x1).toNatClampNeg))]), (107, o530, J, mm_rf rv sp rr w nw))) rfl h536 ?_
          cases e
          exact mm_T.ret rfl ⟨rfl, rfl⟩
        · rw [if_neg h535] at e
          by_cases h537 : x2 = 3
          · rw [if_pos h537] at e
            refine mm_T.step (f' := (90, [some (.ref 62), some (.int x1), some (.int x2)], [])) (h' := (107, o530, J, mm_rf rv sp rr w nw)) (by rw [h537]; rfl) ?_
            refine mm_T.seg (f' := (98, [some (.ref 62), some (.int x1), some (.int x2)], [(.int (12 + x1)), (.ref 85)])) (h' := (107, o530, J, mm_rf rv sp rr w nw)) 5 rfl ?_
            by_cases h538 : (12 + x1) < 0 ∨ 28 ≤ (12 + x1).toNatClampNeg
            · rw [if_pos h538] at e; cases e
            rw [if_neg h538] at e
            refine mm_T.guard (y := ((99, [some (.ref 62), some (.int x1), some (.int x2)], [(.int (o530 85 (12 + x1).toNatClampNeg))]), (107, o530, J, mm_rf rv sp rr w nw))) rfl h538 ?_
            cases e
            exact mm_T.ret rfl ⟨rfl, rfl⟩
          · rw [if_neg h537] at e
            by_cases h539 : x2 = 4
            · rw [if_pos h539] at e
              refine mm_T.step (f' := (100, [some (.ref 62), some (.int x1), some (.int x2)], [])) (h' := (107, o530, J, mm_rf rv sp rr w nw)) (by rw [h539]; rfl) ?_
              refine mm_T.seg (f' := (108, [some (.ref 62), some (.int x1), some (.int x2)], [(.int (16 + x1)), (.ref 85)])) (h' := (107, o530, J, mm_rf rv sp rr w nw)) 5 rfl ?_
              by_cases h540 : (16 + x1) < 0 ∨ 28 ≤ (16 + x1).toNatClampNeg
              · rw [if_pos h540] at e; cases e
              rw [if_neg h540] at e
              refine mm_T.guard (y := ((109, [some (.ref 62), some (.int x1), some (.int x2)], [(.int (o530 85 (16 + x1).toNatClampNeg))]), (107, o530, J, mm_rf rv sp rr w nw))) rfl h540 ?_
              cases e
              exact mm_T.ret rfl ⟨rfl, rfl⟩
            · rw [if_neg h539] at e
              by_cases h541 : x2 = 5
              · rw [if_pos h541] at e
                refine mm_T.step (f' := (110, [some (.ref 62), some (.int x1), some (.int x2)], [])) (h' := (107, o530, J, mm_rf rv sp rr w nw)) (by rw [h541]; rfl) ?_
                refine mm_T.seg (f' := (115, [some (.ref 62), some (.int x1), some (.int x2)], [(.int x1), (.ref 80)])) (h' := (107, o530, J, mm_rf rv sp rr w nw)) 3 rfl ?_
                by_cases h542 : x1 < 0 ∨ 4 ≤ x1.toNatClampNeg
                · rw [if_pos h542] at e; cases e
                rw [if_neg h542] at e
                refine mm_T.guard (y := ((116, [some (.ref 62), some (.int x1), some (.int x2)], [(.int (o530 80 x1.toNatClampNeg))]), (107, o530, J, mm_rf rv sp rr w nw))) rfl h542 ?_
                cases e
                exact mm_T.ret rfl ⟨rfl, rfl⟩
              · rw [if_neg h541] at e
                by_cases h543 : x2 = 6
                · rw [if_pos h543] at e
                  refine mm_T.step (f' := (117, [some (.ref 62), some (.int x1), some (.int x2)], [])) (h' := (107, o530, J, mm_rf rv sp rr w nw)) (by rw [h543]; rfl) ?_
                  refine mm_T.seg (f' := (122, [some (.ref 62), some (.int x1), some (.int x2)], [(.int x1), (.ref 82)])) (h' := (107, o530, J, mm_rf rv sp rr w nw)) 3 rfl ?_
                  by_cases h544 : x1 < 0 ∨ 4 ≤ x1.toNatClampNeg
                  · rw [if_pos h544] at e; cases e
                  rw [if_neg h544] at e
                  refine mm_T.guard (y := ((123, [some (.ref 62), some (.int x1), some (.int x2)], [(.int (o530 82 x1.toNatClampNeg))]), (107, o530, J, mm_rf rv sp rr w nw))) rfl h544 ?_
                  cases e
                  exact mm_T.ret rfl ⟨rfl, rfl⟩
                · rw [if_neg h543] at e
                  by_cases h545 : x2 = 7
                  · rw [if_pos h545] at e
                    refine mm_T.step (f' := (124, [some (.ref 62), some (.int x1), some (.int x2)], [])) (h' := (107, o530, J, mm_rf rv sp rr w nw)) (by rw [h545]; rfl) ?_
                    refine mm_T.seg (f' := (126, [some (.ref 62), some (.int x1), some (.int x2)], [(.int x1), (.ref 62)])) (h' := (107, o530, J, mm_rf rv sp rr w nw)) 2 rfl ?_
                    obtain ⟨o546, eo546, e⟩ := mm_bind e
                    refine mm_T.call (t := 240) (as := [(.ref 62), (.int x1)]) (f' := (129, [some (.ref 62), some (.int x1), some (.int x2)], [])) rfl (tX12_burdenOf (d + 1) n x1 o530 J rv sp rr w nw o546 eo546) (fun v h hq => ?_)
                    obtain ⟨rfl, rfl⟩ := hq
                    cases e
                    exact mm_T.ret rfl ⟨rfl, rfl⟩
                  · rw [if_neg h545] at e
                    by_cases h547 : x2 = 8
                    · rw [if_pos h547] at e
                      refine mm_T.step (f' := (130, [some (.ref 62), some (.int x1), some (.int x2)], [])) (h' := (107, o530, J, mm_rf rv sp rr w nw)) (by rw [h547]; rfl) ?_
                      refine mm_T.seg (f' := (132, [some (.ref 62), some (.int x1), some (.int x2)], [(.int x1), (.ref 62)])) (h' := (107, o530, J, mm_rf rv sp rr w nw)) 2 rfl ?_
                      obtain ⟨o548, eo548, e⟩ := mm_bind e
                      refine mm_T.call (t := 262) (as := [(.ref 62), (.int x1)]) (f' := (135, [some (.ref 62), some (.int x1), some (.int x2)], [])) rfl (tX12_loadsAt (d + 0) n x1 o530 J rv sp rr w nw o548 eo548) (fun v h hq => ?_)
                      obtain ⟨rfl, rfl⟩ := hq
                      cases e
                      exact mm_T.ret rfl ⟨rfl, rfl⟩
                    · rw [if_neg h547] at e
                      refine mm_T.tabs (lo := 0) (hi := 8) (y := ((136, [some (.ref 62), some (.int x1), some (.int x2)], []), (107, o530, J, mm_rf rv sp rr w nw))) rfl (mm_swo 0 8 x2 [0, 1, 2, 3, 4, 5, 6, 7, 8] (by decide) (by intro z hz; simp only [List.mem_cons, List.not_mem_nil, or_false] at hz; rcases hz with rfl | rfl | rfl | rfl | rfl | rfl | rfl | rfl | rfl <;> assumption)) ?_
                      refine mm_T.seg (f' := (137, [some (.ref 62), some (.int x1), some (.int x2)], [(.int (-1))])) (h' := (107, o530, J, mm_rf rv sp rr w nw)) 1 rfl ?_
                      cases e
                      exact mm_T.ret rfl ⟨rfl, rfl⟩
def fX12_load (x1 : Int32) (x2 : Int32) (I : Nat → Nat → Int32) : Option (Int32) := (fX12_isLoad x1 I).bind fun o549 => (if o549 = 0 then some (-3) else (if (fX12_isIn x2 0 1) = 0 then some (-3) else (if x2 = 0 then (if x1 < 0 ∨ 7 ≤ x1.toNatClampNeg then none else some (I 83 x1.toNatClampNeg)) else (if (20 + x1) < 0 ∨ 28 ≤ (20 + x1).toNatClampNeg then none else some (I 84 (20 + x1).toNatClampNeg)))))
set_option maxRecDepth 100000 in
set_option maxHeartbeats 4000000 in
theorem tX12_load (d : Nat) (x1 : Int32) (x2 : Int32) (I : Nat → Nat → Int32) (J : Nat → Nat → Int64) (rv sp rr w nw : Nat) (out : Int32) (e : fX12_load x1 x2 I = some out) : mm_T none (d + 2) 264 (mm_ent 264 [(.ref 62), (.int x1), (.int x2)]) (107, I, J, mm_rf rv sp rr w nw) (fun v h => v = some (.int out) ∧ h = (107, I, J, mm_rf rv sp rr w nw)) := by
  unfold fX12_load at e
  refine mm_T.seg (f' := (2, [some (.ref 62), some (.int x1), some (.int x2)], [(.int x1), (.ref 62)])) (h' := (107, I, J, mm_rf rv sp rr w nw)) 2 rfl ?_
  obtain ⟨o549, eo549, e⟩ := mm_bind e
  refine mm_T.call (t := 254) (as := [(.ref 62), (.int x1)]) (f' := (5, [some (.ref 62), some (.int x1), some (.int x2)], [])) rfl (tX12_isLoad (d + 0) x1 I J rv sp rr w nw o549 eo549) (fun v h hq => ?_)
  obtain ⟨rfl, rfl⟩ := hq
  refine mm_T.br (c := o549 = 0) (a := ((17, [some (.ref 62), some (.int x1), some (.int x2)], []), (107, I, J, mm_rf rv sp rr w nw))) (b := ((8, [some (.ref 62), some (.int x1), some (.int x2)], []), (107, I, J, mm_rf rv sp rr w nw))) rfl (fun h550 => ?_) (fun h550 => ?_)
  · rw [if_pos h550] at e
    refine mm_T.seg (f' := (44, [some (.ref 62), some (.int x1), some (.int x2)], [(.int (-3))])) (h' := (107, I, J, mm_rf rv sp rr w nw)) 2 rfl ?_
    cases e
    exact mm_T.ret rfl ⟨rfl, rfl⟩
  · rw [if_neg h550] at e
    refine mm_T.seg (f' := (11, [some (.ref 62), some (.int x1), some (.int x2)], [(.int 1), (.int 0), (.int x2)])) (h' := (107, I, J, mm_rf rv sp rr w nw)) 3 rfl ?_
    refine mm_T.call (t := 252) (as := [(.int x2), (.int 0), (.int 1)]) (f' := (14, [some (.ref 62), some (.int x1), some (.int x2)], [])) rfl (tX12_isIn (d + 1) x2 0 1 I J rv sp rr w nw _ rfl) (fun v h hq => ?_)
    obtain ⟨rfl, rfl⟩ := hq
    refine mm_T.br (c := (fX12_isIn x2 0 1) = 0) (a := ((17, [some (.ref 62), some (.int x1), some (.int x2)], []), (107, I, J, mm_rf rv sp rr w nw))) (b := ((22, [some (.ref 62), some (.int x1), some (.int x2)], []), (107, I, J, mm_rf rv sp rr w nw))) rfl (fun h551 => ?_) (fun h551 => ?_)
    · rw [if_pos h551] at e
      refine mm_T.seg (f' := (44, [some (.ref 62), some (.int x1), some (.int x2)], [(.int (-3))])) (h' := (107, I, J, mm_rf rv sp rr w nw)) 2 rfl ?_
      cases e
      exact mm_T.ret rfl ⟨rfl, rfl⟩
    · rw [if_neg h551] at e
      refine mm_T.seg (f' := (23, [some (.ref 62), some (.int x1), some (.int x2)], [(.int x2)])) (h' := (107, I, J, mm_rf rv sp rr w nw)) 1 rfl ?_
      refine mm_T.br (c := x2 = 0) (a := ((26, [some (.ref 62), some (.int x1), some (.int x2)], []), (107, I, J, mm_rf rv sp rr w nw))) (b := ((35, [some (.ref 62), some (.int x1), some (.int x2)], []), (107, I, J, mm_rf rv sp rr w nw))) rfl (fun h552 => ?_) (fun h552 => ?_)
      · rw [if_pos h552] at e
        refine mm_T.seg (f' := (31, [some (.ref 62), some (.int x1), some (.int x2)], [(.int x1), (.ref 83)])) (h' := (107, I, J, mm_rf rv sp rr w nw)) 3 rfl ?_
        by_cases h553 : x1 < 0 ∨ 7 ≤ x1.toNatClampNeg
        · rw [if_pos h553] at e; cases e
        rw [if_neg h553] at e
        refine mm_T.guard (y := ((32, [some (.ref 62), some (.int x1), some (.int x2)], [(.int (I 83 x1.toNatClampNeg))]), (107, I, J, mm_rf rv sp rr w nw))) rfl h553 ?_
        refine mm_T.seg (f' := (44, [some (.ref 62), some (.int x1), some (.int x2)], [(.int (I 83 x1.toNatClampNeg))])) (h' := (107, I, J, mm_rf rv sp rr w nw)) 1 rfl ?_
        cases e
        exact mm_T.ret rfl ⟨rfl, rfl⟩
      · rw [if_neg h552] at e
        refine mm_T.seg (f' := (43, [some (.ref 62), some (.int x1), some (.int x2)], [(.int (20 + x1)), (.ref 84)])) (h' := (107, I, J, mm_rf rv sp rr w nw)) 5 rfl ?_
        by_cases h554 : (20 + x1) < 0 ∨ 28 ≤ (20 + x1).toNatClampNeg
        · rw [if_pos h554] at e; cases e
        rw [if_neg h554] at e
        refine mm_T.guard (y := ((44, [some (.ref 62), some (.int x1), some (.int x2)], [(.int (I 84 (20 + x1).toNatClampNeg))]), (107, I, J, mm_rf rv sp rr w nw))) rfl h554 ?_
        cases e
        exact mm_T.ret rfl ⟨rfl, rfl⟩
def fX12_spot (x1 : Int32) (x2 : Int32) (x3 : Int32) (I : Nat → Nat → Int32) : Option (Int32) := (if (fX12_isIn x1 0 ((I 62 46) - 1)) = 0 then some (-1) else (if (fX12_isIn x2 0 (I 62 47)) = 0 then some (-1) else (if (fX12_isIn x3 0 1) = 0 then some (-1) else (if x3 = 0 then (fX12_currentAt x1 x2 I).bind fun o559 => some o559 else (fX12_isIron x1 x2 I).bind fun o560 => some (fX12_truth o560)))))
set_option maxRecDepth 100000 in
set_option maxHeartbeats 4000000 in
theorem tX12_spot (d : Nat) (x1 : Int32) (x2 : Int32) (x3 : Int32) (I : Nat → Nat → Int32) (J : Nat → Nat → Int64) (rv sp rr w nw : Nat) (out : Int32) (e : fX12_spot x1 x2 x3 I = some out) : mm_T none (d + 1) 265 (mm_ent 265 [(.ref 62), (.int x1), (.int x2), (.int x3)]) (107, I, J, mm_rf rv sp rr w nw) (fun v h => v = some (.int out) ∧ h = (107, I, J, mm_rf rv sp rr w nw)) := by
  unfold fX12_spot at e
  refine mm_T.seg (f' := (8, [some (.ref 62), some (.int x1), some (.int x2), some (.int x3)], [(.int ((I 62 46) - 1)), (.int 0), (.int x1)])) (h' := (107, I, J, mm_rf rv sp rr w nw)) 6 rfl ?_
  refine mm_T.call (t := 252) (as := [(.int x1), (.int 0), (.int ((I 62 46) - 1))]) (f' := (11, [some (.ref 62), some (.int x1), some (.int x2), some (.int x3)], [])) rfl (tX12_isIn (d + 0) x1 0 ((I 62 46) - 1) I J rv sp rr w nw _ rfl) (fun v h hq => ?_)
  obtain ⟨rfl, rfl⟩ := hq
  refine mm_T.br (c := (fX12_isIn x1 0 ((I 62 46) - 1)) = 0) (a := ((35, [some (.ref 62), some (.int x1), some (.int x2), some (.int x3)], []), (107, I, J, mm_rf rv sp rr w nw))) (b := ((14, [some (.ref 62), some (.int x1), some (.int x2), some (.int x3)], []), (107, I, J, mm_rf rv sp rr w nw))) rfl (fun h555 => ?_) (fun h555 => ?_)
  · rw [if_pos h555] at e
    refine mm_T.seg (f' := (36, [some (.ref 62), some (.int x1), some (.int x2), some (.int x3)], [(.int (-1))])) (h' := (107, I, J, mm_rf rv sp rr w nw)) 1 rfl ?_
    cases e
    exact mm_T.ret rfl ⟨rfl, rfl⟩
  · rw [if_neg h555] at e
    refine mm_T.seg (f' := (20, [some (.ref 62), some (.int x1), some (.int x2), some (.int x3)], [(.int (I 62 47)), (.int 0), (.int x2)])) (h' := (107, I, J, mm_rf rv sp rr w nw)) 4 rfl ?_
    refine mm_T.call (t := 252) (as := [(.int x2), (.int 0), (.int (I 62 47))]) (f' := (23, [some (.ref 62), some (.int x1), some (.int x2), some (.int x3)], [])) rfl (tX12_isIn (d + 0) x2 0 (I 62 47) I J rv sp rr w nw _ rfl) (fun v h hq => ?_)
    obtain ⟨rfl, rfl⟩ := hq
    refine mm_T.br (c := (fX12_isIn x2 0 (I 62 47)) = 0) (a := ((35, [some (.ref 62), some (.int x1), some (.int x2), some (.int x3)], []), (107, I, J, mm_rf rv sp rr w nw))) (b := ((26, [some (.ref 62), some (.int x1), some (.int x2), some (.int x3)], []), (107, I, J, mm_rf rv sp rr w nw))) rfl (fun h556 => ?_) (fun h556 => ?_)
    · rw [if_pos h556] at e
      refine mm_T.seg (f' := (36, [some (.ref 62), some (.int x1), some (.int x2), some (.int x3)], [(.int (-1))])) (h' := (107, I, J, mm_rf rv sp rr w nw)) 1 rfl ?_
      cases e
      exact mm_T.ret rfl ⟨rfl, rfl⟩
    · rw [if_neg h556] at e
      refine mm_T.seg (f' := (29, [some (.ref 62), some (.int x1), some (.int x2), some (.int x3)], [(.int 1), (.int 0), (.int x3)])) (h' := (107, I, J, mm_rf rv sp rr w nw)) 3 rfl ?_
      refine mm_T.call (t := 252) (as := [(.int x3), (.int 0), (.int 1)]) (f' := (32, [some (.ref 62), some (.int x1), some (.int x2), some (.int x3)], [])) rfl (tX12_isIn (d + 0) x3 0 1 I J rv sp rr w nw _ rfl) (fun v h hq => ?_)
      obtain ⟨rfl, rfl⟩ := hq
      refine mm_T.br (c := (fX12_isIn x3 0 1) = 0) (a := ((35, [some (.ref 62), some (.int x1), some (.int x2), some (.int x3)], []), (107, I, J, mm_rf rv sp rr w nw))) (b := ((37, [some (.ref 62), some (.int x1), some (.int x2), some (.int x3)], []), (107, I, J, mm_rf rv sp rr w nw))) rfl (fun h557 => ?_) (fun h557 => ?_)
      · rw [if_pos h557] at e
        refine mm_T.seg (f' := (36, [some (.ref 62), some (.int x1), some (.int x2), some (.int x3)], [(.int (-1))])) (h' := (107, I, J, mm_rf rv sp rr w nw)) 1 rfl ?_
        cases e
        exact mm_T.ret rfl ⟨rfl, rfl⟩
      · rw [if_neg h557] at e
        refine mm_T.seg (f' := (38, [some (.ref 62), some (.int x1), some (.int x2), some (.int x3)], [(.int x3)])) (h' := (107, I, J, mm_rf rv sp rr w nw)) 1 rfl ?_
        refine mm_T.br (c := x3 = 0) (a := ((41, [some (.ref 62), some (.int x1), some (.int x2), some (.int x3)], []), (107, I, J, mm_rf rv sp rr w nw))) (b := ((50, [some (.ref 62), some (.int x1), some (.int x2), some (.int x3)], []), (107, I, J, mm_rf rv sp rr w nw))) rfl (fun h558 => ?_) (fun h558 => ?_)
        · rw [if_pos h558] at e
          refine mm_T.seg (f' := (44, [some (.ref 62), some (.int x1), some (.int x2), some (.int x3)], [(.int x2), (.int x1), (.ref 62)])) (h' := (107, I, J, mm_rf rv sp rr w nw)) 3 rfl ?_
          obtain ⟨o559, eo559, e⟩ := mm_bind e
          refine mm_T.call (t := 258) (as := [(.ref 62), (.int x1), (.int x2)]) (f' := (47, [some (.ref 62), some (.int x1), some (.int x2), some (.int x3)], [])) rfl (tX12_currentAt (d + 0) x1 x2 I J rv sp rr w nw o559 eo559) (fun v h hq => ?_)
          obtain ⟨rfl, rfl⟩ := hq
          refine mm_T.seg (f' := (59, [some (.ref 62), some (.int x1), some (.int x2), some (.int x3)], [(.int o559)])) (h' := (107, I, J, mm_rf rv sp rr w nw)) 1 rfl ?_
          cases e
          exact mm_T.ret rfl ⟨rfl, rfl⟩
        · rw [if_neg h558] at e
          refine mm_T.seg (f' := (53, [some (.ref 62), some (.int x1), some (.int x2), some (.int x3)], [(.int x2), (.int x1), (.ref 62)])) (h' := (107, I, J, mm_rf rv sp rr w nw)) 3 rfl ?_
          obtain ⟨o560, eo560, e⟩ := mm_bind e
          refine mm_T.call (t := 260) (as := [(.ref 62), (.int x1), (.int x2)]) (f' := (56, [some (.ref 62), some (.int x1), some (.int x2), some (.int x3)], [])) rfl (tX12_isIron (d + 0) x1 x2 I J rv sp rr w nw o560 eo560) (fun v h hq => ?_)
          obtain ⟨rfl, rfl⟩ := hq
          refine mm_T.call (t := 236) (as := [(.int o560)]) (f' := (59, [some (.ref 62), some (.int x1), some (.int x2), some (.int x3)], [])) rfl (tX12_truth (d + 0) o560 I J rv sp rr w nw _ rfl) (fun v h hq => ?_)
          obtain ⟨rfl, rfl⟩ := hq
          cases e
          exact mm_T.ret rfl ⟨rfl, rfl⟩
