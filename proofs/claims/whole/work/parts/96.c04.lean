set_option maxRecDepth 100000 in
set_option maxHeartbeats 4000000 in
theorem tX5_addLoad (d : Nat) (x1 : Int64) (x3 : Int32) (r : Nat) (I : Nat → Nat → Int32) (J : Nat → Nat → Int64) (rv sp rr w nw : Nat) (hr : r = 3 ∨ r = 19) (out : (Nat → Nat → Int32) × (Nat → Nat → Int64)) (e : fX5_addLoad x1 x3 r I J = some out) : mm_T none (d + 1) 73 (mm_ent 73 [(.ref r), (.long x1), (.int x3)]) (107, I, J, mm_rf rv sp rr w nw) (fun v h => v = none ∧ h = (107, out.1, out.2, mm_rf rv sp rr w nw)) := by
  rcases hr with rfl | rfl
  · unfold fX5_addLoad at e
    refine mm_T.seg (f' := (6, [some (.ref 3), some (.long x1), none, some (.int x3)], [(.int 7), (.int (I 3 5))])) (h' := (107, I, J, mm_rf rv sp rr w nw)) 3 rfl ?_
    refine mm_T.br (c := (I 3 5) < 7) (a := ((9, [some (.ref 3), some (.long x1), none, some (.int x3)], []), (107, I, J, mm_rf rv sp rr w nw))) (b := ((41, [some (.ref 3), some (.long x1), none, some (.int x3)], []), (107, I, J, mm_rf rv sp rr w nw))) rfl (fun h1636 => ?_) (fun h1636 => ?_)
    · rw [if_pos h1636] at e
      refine mm_T.seg (f' := (13, [some (.ref 3), some (.long x1), none, some (.int x3)], [(.ref (3 + 12))])) (h' := (107, I, J, mm_rf rv sp rr w nw)) 2 rfl ?_
      refine mm_T.seg (f' := (18, [some (.ref 3), some (.long x1), none, some (.int x3)], [(.long x1), (.int (I 3 5)), (.ref (3 + 12))])) (h' := (107, I, J, mm_rf rv sp rr w nw)) 3 rfl ?_
      by_cases h1637 : (I 3 5) < 0 ∨ 7 ≤ (I 3 5).toNatClampNeg
      · rw [if_pos h1637] at e; cases e
      rw [if_neg h1637] at e
      refine mm_T.guard (y := ((19, [some (.ref 3), some (.long x1), none, some (.int x3)], []), (107, I, (mm_up J (3 + 12) (I 3 5).toNatClampNeg x1), mm_rf rv sp rr w nw))) rfl h1637 ?_
      refine mm_T.seg (f' := (23, [some (.ref 3), some (.long x1), none, some (.int x3)], [(.ref (3 + 11))])) (h' := (107, I, (mm_up J (3 + 12) (I 3 5).toNatClampNeg x1), mm_rf rv sp rr w nw)) 2 rfl ?_
      refine mm_T.seg (f' := (28, [some (.ref 3), some (.long x1), none, some (.int x3)], [(.int x3), (.int (I 3 5)), (.ref (3 + 11))])) (h' := (107, I, (mm_up J (3 + 12) (I 3 5).toNatClampNeg x1), mm_rf rv sp rr w nw)) 3 rfl ?_
      refine mm_T.call (t := 205) (as := [(.ref (3 + 11)), (.int (I 3 5)), (.int x3)]) (f' := (31, [some (.ref 3), some (.long x1), none, some (.int x3)], [])) rfl (t_put _ (3 + 11) 7 (I 3 5) x3 I (mm_up J (3 + 12) (I 3 5).toNatClampNeg x1) (mm_rf rv sp rr w nw) rfl rfl) (fun v h hq => ?_)
      obtain ⟨rfl, rfl⟩ := hq
      refine mm_T.seg (f' := (41, [some (.ref 3), some (.long x1), none, some (.int x3)], [])) (h' := (107, (mm_up (mf_put I (3 + 11) 7 (I 3 5) x3) 3 5 (((mf_put I (3 + 11) 7 (I 3 5) x3) 3 5) + 1)), (mm_up J (3 + 12) (I 3 5).toNatClampNeg x1), mm_rf rv sp rr w nw)) 6 rfl ?_
      cases e
      exact mm_T.ret rfl ⟨rfl, rfl⟩
    · rw [if_neg h1636] at e
      cases e
      exact mm_T.ret rfl ⟨rfl, rfl⟩
  · unfold fX5_addLoad at e
    refine mm_T.seg (f' := (6, [some (.ref 19), some (.long x1), none, some (.int x3)], [(.int 7), (.int (I 19 5))])) (h' := (107, I, J, mm_rf rv sp rr w nw)) 3 rfl ?_
    refine mm_T.br (c := (I 19 5) < 7) (a := ((9, [some (.ref 19), some (.long x1), none, some (.int x3)], []), (107, I, J, mm_rf rv sp rr w nw))) (b := ((41, [some (.ref 19), some (.long x1), none, some (.int x3)], []), (107, I, J, mm_rf rv sp rr w nw))) rfl (fun h1636 => ?_) (fun h1636 => ?_)
    · rw [if_pos h1636] at e
      refine mm_T.seg (f' := (13, [some (.ref 19), some (.long x1), none, some (.int x3)], [(.ref (19 + 12))])) (h' := (107, I, J, mm_rf rv sp rr w nw)) 2 rfl ?_
      refine mm_T.seg (f' := (18, [some (.ref 19), some (.long x1), none, some (.int x3)], [(.long x1), (.int (I 19 5)), (.ref (19 + 12))])) (h' := (107, I, J, mm_rf rv sp rr w nw)) 3 rfl ?_
      by_cases h1637 : (I 19 5) < 0 ∨ 7 ≤ (I 19 5).toNatClampNeg
      · rw [if_pos h1637] at e; cases e
      rw [if_neg h1637] at e
      refine mm_T.guard (y := ((19, [some (.ref 19), some (.long x1), none, some (.int x3)], []), (107, I, (mm_up J (19 + 12) (I 19 5).toNatClampNeg x1), mm_rf rv sp rr w nw))) rfl h1637 ?_
      refine mm_T.seg (f' := (23, [some (.ref 19), some (.long x1), none, some (.int x3)], [(.ref (19 + 11))])) (h' := (107, I, (mm_up J (19 + 12) (I 19 5).toNatClampNeg x1), mm_rf rv sp rr w nw)) 2 rfl ?_
      refine mm_T.seg (f' := (28, [some (.ref 19), some (.long x1), none, some (.int x3)], [(.int x3), (.int (I 19 5)), (.ref (19 + 11))])) (h' := (107, I, (mm_up J (19 + 12) (I 19 5).toNatClampNeg x1), mm_rf rv sp rr w nw)) 3 rfl ?_
      refine mm_T.call (t := 205) (as := [(.ref (19 + 11)), (.int (I 19 5)), (.int x3)]) (f' := (31, [some (.ref 19), some (.long x1), none, some (.int x3)], [])) rfl (t_put _ (19 + 11) 7 (I 19 5) x3 I (mm_up J (19 + 12) (I 19 5).toNatClampNeg x1) (mm_rf rv sp rr w nw) rfl rfl) (fun v h hq => ?_)
      obtain ⟨rfl, rfl⟩ := hq
      refine mm_T.seg (f' := (41, [some (.ref 19), some (.long x1), none, some (.int x3)], [])) (h' := (107, (mm_up (mf_put I (19 + 11) 7 (I 19 5) x3) 19 5 (((mf_put I (19 + 11) 7 (I 19 5) x3) 19 5) + 1)), (mm_up J (19 + 12) (I 19 5).toNatClampNeg x1), mm_rf rv sp rr w nw)) 6 rfl ?_
      cases e
      exact mm_T.ret rfl ⟨rfl, rfl⟩
    · rw [if_neg h1636] at e
      cases e
      exact mm_T.ret rfl ⟨rfl, rfl⟩
set_option maxRecDepth 100000 in
set_option maxHeartbeats 4000000 in
theorem tX4_readLoad (d n : Nat) (I : Nat → Nat → Int32) (J : Nat → Nat → Int64) (rv sp rr w nw : Nat) (hrr : rr = 3 ∨ rr = 19) (out : Int32 × (Nat → Nat → Int32) × (Nat → Nat → Int64)) (e : fX4_readLoad n I J rr = some out) : mm_T none (d + 6) 51 (mm_ent 51 [(.ref 16)]) (107, I, J, mm_rf rv sp rr w nw) (fun v h => v = some (.int out.1) ∧ h = (107, out.2.1, out.2.2, mm_rf rv sp rr w nw)) := by
  rcases hrr with rfl | rfl
  · unfold fX4_readLoad at e
    refine mm_T.seg (f' := (2, [some (.ref 16), none, none, none], [(.int 0), (.ref 16)])) (h' := (107, I, J, mm_rf rv sp 3 w nw)) 2 rfl ?_
    obtain ⟨o1629, eo1629, e⟩ := mm_bind e
    refine mm_T.call (t := 49) (as := [(.ref 16), (.int 0)]) (f' := (5, [some (.ref 16), none, none, none], [])) rfl (tX4_isNewName (d + 3) n 0 I J rv sp 3 w nw (Or.inl rfl) o1629 eo1629) (fun v h hq => ?_)
    obtain ⟨rfl, rfl⟩ := hq
    refine mm_T.br (c := o1629.1 = 0) (a := ((8, [some (.ref 16), none, none, none], []), (107, o1629.2, J, mm_rf rv sp 3 w nw))) (b := ((10, [some (.ref 16), none, none, none], []), (107, o1629.2, J, mm_rf rv sp 3 w nw))) rfl (fun h1630 => ?_) (fun h1630 => ?_)
    · rw [if_pos h1630] at e
      refine mm_T.seg (f' := (9, [some (.ref 16), none, none, none], [(.int 0)])) (h' := (107, o1629.2, J, mm_rf rv sp 3 w nw)) 1 rfl ?_
      cases e
      exact mm_T.ret rfl ⟨rfl, rfl⟩
    · rw [if_neg h1630] at e
      refine mm_T.seg (f' := (16, [some (.ref 16), some (.long (J 16 8)), none, none], [(.ref 16)])) (h' := (107, o1629.2, J, mm_rf rv sp 3 w nw)) 4 rfl ?_
      obtain ⟨o1631, eo1631, e⟩ := mm_bind e
      refine mm_T.call (t := 34) (as := [(.ref 16)]) (f' := (19, [some (.ref 16), some (.long (J 16 8)), none, none], [])) rfl (tX4_advance (d + 1) n o1629.2 J rv sp 3 w nw o1631 eo1631) (fun v h hq => ?_)
      obtain ⟨rfl, rfl⟩ := hq
      refine mm_T.seg (f' := (22, [some (.ref 16), some (.long (J 16 8)), none, none], [(.int 10), (.ref 16)])) (h' := (107, o1631.1, o1631.2, mm_rf rv sp 3 w nw)) 2 rfl ?_
      obtain ⟨o1632, eo1632, e⟩ := mm_bind e
      refine mm_T.call (t := 40) (as := [(.ref 16), (.int 10)]) (f' := (25, [some (.ref 16), some (.long (J 16 8)), none, none], [])) rfl (tX4_passWord (d + 0) n 10 o1631.1 o1631.2 rv sp 3 w nw o1632 eo1632) (fun v h hq => ?_)
      obtain ⟨rfl, rfl⟩ := hq
      refine mm_T.br (c := o1632.1 = 0) (a := ((38, [some (.ref 16), some (.long (J 16 8)), none, none], []), (107, o1632.2.1, o1632.2.2, mm_rf rv sp 3 w nw))) (b := ((28, [some (.ref 16), some (.long (J 16 8)), none, none], []), (107, o1632.2.1, o1632.2.2, mm_rf rv sp 3 w nw))) rfl (fun h1633 => ?_) (fun h1633 => ?_)
      · rw [if_pos h1633] at e
        refine mm_T.seg (f' := (46, [some (.ref 16), some (.long (J 16 8)), none, some (.int (-1))], [(.int 0)])) (h' := (107, o1632.2.1, o1632.2.2, mm_rf rv sp 3 w nw)) 6 rfl ?_
        cases e
        exact mm_T.ret rfl ⟨rfl, rfl⟩
      · rw [if_neg h1633] at e
        refine mm_T.seg (f' := (32, [some (.ref 16), some (.long (J 16 8)), none, none], [(.int 99), (.int 0), (.ref 16)])) (h' := (107, o1632.2.1, o1632.2.2, mm_rf rv sp 3 w nw)) 3 rfl ?_
        obtain ⟨o1634, eo1634, e⟩ := mm_bind e
        refine mm_T.call (t := 43) (as := [(.ref 16), (.int 0), (.int 99)]) (f' := (35, [some (.ref 16), some (.long (J 16 8)), none, none], [])) rfl (tX4_passNumber (d + 0) n 0 99 o1632.2.1 o1632.2.2 rv sp 3 w nw o1634 eo1634) (fun v h hq => ?_)
        obtain ⟨rfl, rfl⟩ := hq
        refine mm_T.seg (f' := (42, [some (.ref 16), some (.long (J 16 8)), none, some (.int o1634.1)], [(.int (-1)), (.int o1634.1)])) (h' := (107, o1634.2.1, o1634.2.2, mm_rf rv sp 3 w nw)) 4 rfl ?_
        refine mm_T.br (c := o1634.1 = (-1)) (a := ((45, [some (.ref 16), some (.long (J 16 8)), none, some (.int o1634.1)], []), (107, o1634.2.1, o1634.2.2, mm_rf rv sp 3 w nw))) (b := ((47, [some (.ref 16), some (.long (J 16 8)), none, some (.int o1634.1)], []), (107, o1634.2.1, o1634.2.2, mm_rf rv sp 3 w nw))) rfl (fun h1635 => ?_) (fun h1635 => ?_)
        · rw [if_pos h1635] at e
          refine mm_T.seg (f' := (46, [some (.ref 16), some (.long (J 16 8)), none, some (.int o1634.1)], [(.int 0)])) (h' := (107, o1634.2.1, o1634.2.2, mm_rf rv sp 3 w nw)) 1 rfl ?_
          cases e
          exact mm_T.ret rfl ⟨rfl, rfl⟩
        · rw [if_neg h1635] at e
          refine mm_T.seg (f' := (51, [some (.ref 16), some (.long (J 16 8)), none, some (.int o1634.1)], [(.ref 3)])) (h' := (107, o1634.2.1, o1634.2.2, mm_rf rv sp 3 w nw)) 2 rfl ?_
          refine mm_T.seg (f' := (53, [some (.ref 16), some (.long (J 16 8)), none, some (.int o1634.1)], [(.int o1634.1), (.long (J 16 8)), (.ref 3)])) (h' := (107, o1634.2.1, o1634.2.2, mm_rf rv sp 3 w nw)) 2 rfl ?_
          obtain ⟨o1638, eo1638, e⟩ := mm_bind e
          refine mm_T.call (t := 73) (as := [(.ref 3), (.long (J 16 8)), (.int o1634.1)]) (f' := (56, [some (.ref 16), some (.long (J 16 8)), none, some (.int o1634.1)], [])) rfl (tX5_addLoad (d + 4) (J 16 8) o1634.1 3 o1634.2.1 o1634.2.2 rv sp 3 w nw (Or.inl rfl) o1638 eo1638) (fun v h hq => ?_)
          obtain ⟨rfl, rfl⟩ := hq
          refine mm_T.seg (f' := (57, [some (.ref 16), some (.long (J 16 8)), none, some (.int o1634.1)], [(.ref 16)])) (h' := (107, o1638.1, o1638.2, mm_rf rv sp 3 w nw)) 1 rfl ?_
          obtain ⟨o1639, eo1639, e⟩ := mm_bind e
          refine mm_T.call (t := 41) (as := [(.ref 16)]) (f' := (60, [some (.ref 16), some (.long (J 16 8)), none, some (.int o1634.1)], [])) rfl (tX4_passEndOfLine (d + 0) n o1638.1 o1638.2 rv sp 3 w nw o1639 eo1639) (fun v h hq => ?_)
          obtain ⟨rfl, rfl⟩ := hq
          by_cases h1640 : o1639.1 = 0 ∨ o1639.1 = 1
          case neg => rw [if_neg h1640] at e; cases e
          rw [if_pos h1640] at e
          cases e
          first | exact mm_T.retZ (v := some (.int o1639.1)) rfl h1640 ⟨rfl, rfl⟩ | exact mm_T.retZ (v := some (.int out)) rfl h1640 ⟨rfl, rfl⟩
  · unfold fX4_readLoad at e
    refine mm_T.seg (f' := (2, [some (.ref 16), none, none, none], [(.int 0), (.ref 16)])) (h' := (107, I, J, mm_rf rv sp 19 w nw)) 2 rfl ?_
    obtain ⟨o1629, eo1629, e⟩ := mm_bind e
    refine mm_T.call (t := 49) (as := [(.ref 16), (.int 0)]) (f' := (5, [some (.ref 16), none, none, none], [])) rfl (tX4_isNewName (d + 3) n 0 I J rv sp 19 w nw (Or.inr rfl) o1629 eo1629) (fun v h hq => ?_)
    obtain ⟨rfl, rfl⟩ := hq
    refine mm_T.br (c := o1629.1 = 0) (a := ((8, [some (.ref 16), none, none, none], []), (107, o1629.2, J, mm_rf rv sp 19 w nw))) (b := ((10, [some (.ref 16), none, none, none], []), (107, o1629.2, J, mm_rf rv sp 19 w nw))) rfl (fun h1630 => ?_) (fun h1630 => ?_)
    · rw [if_pos h1630] at e
      refine mm_T.seg (f' := (9, [some (.ref 16), none, none, none], [(.int 0)])) (h' := (107, o1629.2, J, mm_rf rv sp 19 w nw)) 1 rfl ?_
      cases e
      exact mm_T.ret rfl ⟨rfl, rfl⟩
    · rw [if_neg h1630] at e
      refine mm_T.seg (f' := (16, [some (.ref 16), some (.long (J 16 8)), none, none], [(.ref 16)])) (h' := (107, o1629.2, J, mm_rf rv sp 19 w nw)) 4 rfl ?_
      obtain ⟨o1631, eo1631, e⟩ := mm_bind e
      refine mm_T.call (t := 34) (as := [(.ref 16)]) (f' := (19, [some (.ref 16), some (.long (J 16 8)), none, none], [])) rfl (tX4_advance (d + 1) n o1629.2 J rv sp 19 w nw o1631 eo1631) (fun v h hq => ?_)
      obtain ⟨rfl, rfl⟩ := hq
      refine mm_T.seg (f' := (22, [some (.ref 16), some (.long (J 16 8)), none, none], [(.int 10), (.ref 16)])) (h' := (107, o1631.1, o1631.2, mm_rf rv sp 19 w nw)) 2 rfl ?_
      obtain ⟨o1632, eo1632, e⟩ := mm_bind e
      refine mm_T.call (t := 40) (as := [(.ref 16), (.int 10)]) (f' := (25, [some (.ref 16), some (.long (J 16 8)), none, none], [])) rfl (tX4_passWord (d + 0) n 10 o1631.1 o1631.2 rv sp 19 w nw o1632 eo1632) (fun v h hq => ?_)
      obtain ⟨rfl, rfl⟩ := hq
      refine mm_T.br (c := o1632.1 = 0) (a := ((38, [some (.ref 16), some (.long (J 16 8)), none, none], []), (107, o1632.2.1, o1632.2.2, mm_rf rv sp 19 w nw))) (b := ((28, [some (.ref 16), some (.long (J 16 8)), none, none], []), (107, o1632.2.1, o1632.2.2, mm_rf rv sp 19 w nw))) rfl (fun h1633 => ?_) (fun h1633 => ?_)
      · rw [if_pos h1633] at e
        refine mm_T.seg (f' := (46, [some (.ref 16), some (.long (J 16 8)), none, some (.int (-1))], [(.int 0)])) (h' := (107, o1632.2.1, o1632.2.2, mm_rf rv sp 19 w nw)) 6 rfl ?_
        cases e
        exact mm_T.ret rfl ⟨rfl, rfl⟩
      · rw [if_neg h1633] at e
        refine mm_T.seg (f' := (32, [some (.ref 16), some (.long (J 16 8)), none, none], [(.int 99), (.int 0), (.ref 16)])) (h' := (107, o1632.2.1, o1632.2.2, mm_rf rv sp 19 w nw)) 3 rfl ?_
        obtain ⟨o1634, eo1634, e⟩ := mm_bind e
        refine mm_T.call (t := 43) (as := [(.ref 16), (.int 0), (.int 99)]) (f' := (35, [some (.ref 16), some (.long (J 16 8)), none, none], [])) rfl (tX4_passNumber (d + 0) n 0 99 o1632.2.1 o1632.2.2 rv sp 19 w nw o1634 eo1634) (fun v h hq => ?_)
        obtain ⟨rfl, rfl⟩ := hq
        refine mm_T.seg (f' := (42, [some (.ref 16), some (.long (J 16 8)), none, some (.int o1634.1)], [(.int (-1)), (.int o1634.1)])) (h' := (107, o1634.2.1, o1634.2.2, mm_rf rv sp 19 w nw)) 4 rfl ?_
        refine mm_T.br (c := o1634.1 = (-1)) (a := ((45, [some (.ref 16), some (.long (J 16 8)), none, some (.int o1634.1)], []), (107, o1634.2.1, o1634.2.2, mm_rf rv sp 19 w nw))) (b := ((47, [some (.ref 16), some (.long (J 16 8)), none, some (.int o1634.1)], []), (107, o1634.2.1, o1634.2.2, mm_rf rv sp 19 w nw))) rfl (fun h1635 => ?_) (fun h1635 => ?_)
        · rw [if_pos h1635] at e
          refine mm_T.seg (f' := (46, [some (.ref 16), some (.long (J 16 8)), none, some (.int o1634.1)], [(.int 0)])) (h' := (107, o1634.2.1, o1634.2.2, mm_rf rv sp 19 w nw)) 1 rfl ?_
          cases e
          exact mm_T.ret rfl ⟨rfl, rfl⟩
        · rw [if_neg h1635] at e
          refine mm_T.seg (f' := (51, [some (.ref 16), some (.long (J 16 8)), none, some (.int o1634.1)], [(.ref 19)])) (h' := (107, o1634.2.1, o1634.2.2, mm_rf rv sp 19 w nw)) 2 rfl ?_
          refine mm_T.seg (f' := (53, [some (.ref 16), some (.long (J 16 8)), none, some (.int o1634.1)], [(.int o1634.1), (.long (J 16 8)), (.ref 19)])) (h' := (107, o1634.2.1, o1634.2.2, mm_rf rv sp 19 w nw)) 2 rfl ?_
          obtain ⟨o1638, eo1638, e⟩ := mm_bind e
          refine mm_T.call (t := 73) (as := [(.ref 19), (.long (J 16 8)), (.int o1634.1)]) (f' := (56, [some (.ref 16), some (.long (J 16 8)), none, some (.int o1634.1)], [])) rfl (tX5_addLoad (d + 4) (J 16 8) o1634.1 19 o1634.2.1 o1634.2.2 rv sp 19 w nw (Or.inr rfl) o1638 eo1638) (fun v h hq => ?_)
          obtain ⟨rfl, rfl⟩ := hq
          refine mm_T.seg (f' := (57, [some (.ref 16), some (.long (J 16 8)), none, some (.int o1634.1)], [(.ref 16)])) (h' := (107, o1638.1, o1638.2, mm_rf rv sp 19 w nw)) 1 rfl ?_
          obtain ⟨o1639, eo1639, e⟩ := mm_bind e
          refine mm_T.call (t := 41) (as := [(.ref 16)]) (f' := (60, [some (.ref 16), some (.long (J 16 8)), none, some (.int o1634.1)], [])) rfl (tX4_passEndOfLine (d + 0) n o1638.1 o1638.2 rv sp 19 w nw o1639 eo1639) (fun v h hq => ?_)
          obtain ⟨rfl, rfl⟩ := hq
          by_cases h1640 : o1639.1 = 0 ∨ o1639.1 = 1
          case neg => rw [if_neg h1640] at e; cases e
          rw [if_pos h1640] at e
          cases e
          first | exact mm_T.retZ (v := some (.int o1639.1)) rfl h1640 ⟨rfl, rfl⟩ | exact mm_T.retZ (v := some (.int out)) rfl h1640 ⟨rfl, rfl⟩
set_option maxRecDepth 100000 in
set_option maxHeartbeats 4000000 in
theorem tlX4_readBoth_L12 (d : Nat) (Q : Option Value → mm_H → Prop) (rec : Int32 → (Nat → Nat → Int32) → (Nat → Nat → Int64) → Nat → Option (Int32 × (Nat → Nat → Int32) × (Nat → Nat → Int64))) (hrec : ∀ (x1 : Int32) (I : Nat → Nat → Int32) (J : Nat → Nat → Int64) (rv sp rr w nw : Nat), (rr = 3 ∨ rr = 19) → ∀ (out : Int32 × (Nat → Nat → Int32) × (Nat → Nat → Int64)), rec x1 I J rr = some out → mm_T none d 56 (mm_ent 56 [(.ref 16), (.int x1)]) (107, I, J, mm_rf rv sp rr w nw) (fun v h => v = some (.int out.1) ∧ h = (107, out.2.1, out.2.2, mm_rf rv sp rr w nw))) : ∀ (n : Nat) (y1 : Int32) (y2 : Int32) (I : Nat → Nat → Int32) (J : Nat → Nat → Int64) (rv sp rr w nw : Nat), (rr = 3 ∨ rr = 19) → ∀ (out : (Int32 ⊕ (Unit)) × (Nat → Nat → Int32) × (Nat → Nat → Int64)), fX4_readBoth_L12 n rec y1 y2 I J rr = some out → (∀ (r : Int32) (s0 : Nat → Nat → Int32) (s1 : Nat → Nat → Int64), out = (.inl r, s0, s1) → Q (some (.int r)) (107, s0, s1, mm_rf rv sp rr w nw)) → (∀ (y : Unit) (s0 : Nat → Nat → Int32) (s1 : Nat → Nat → Int64), out = (.inr y, s0, s1) → mm_T none (d + 5) 55 (60, [none, none, none], []) (107, s0, s1, mm_rf rv sp rr w nw) Q) → mm_T none (d + 5) 55 (12, [some (.ref 16), some (.int y1), some (.int y2)], []) (107, I, J, mm_rf rv sp rr w nw) Q := by
  intro n
  induction n with
  | zero =>
    intro y1 y2 I J rv sp rr w nw hrr out e kr ke
    rw [fX4_readBoth_L12] at e; cases e
  | succ n ih =>
    intro y1 y2 I J rv sp rr w nw hrr out e kr ke
    rcases hrr with rfl | rfl
    · rw [fX4_readBoth_L12] at e
      refine mm_T.seg (f' := (16, [some (.ref 16), some (.int y1), some (.int y2)], [(.int 1600), (.int y2)])) (h' := (107, I, J, mm_rf rv sp 3 w nw)) 2 rfl ?_
      refine mm_T.br (c := y2 < 1600) (a := ((19, [some (.ref 16), some (.int y1), some (.int y2)], []), (107, I, J, mm_rf rv sp 3 w nw))) (b := ((60, [some (.ref 16), some (.int y1), some (.int y2)], []), (107, I, J, mm_rf rv sp 3 w nw))) rfl (fun h1652 => ?_) (fun h1652 => ?_)
      · rw [if_pos h1652] at e
        refine mm_T.seg (f' := (22, [some (.ref 16), some (.int y1), some (.int y2)], [(.int 13), (.ref 16)])) (h' := (107, I, J, mm_rf rv sp 3 w nw)) 2 rfl ?_
        obtain ⟨g236, hg236⟩ : ∃ z, fX4_isWord 13 I = z := ⟨_, rfl⟩
        try rw [hg236] at e
        refine mm_T.call (t := 38) (as := [(.ref 16), (.int 13)]) (f' := (25, [some (.ref 16), some (.int y1), some (.int y2)], [])) rfl (tX4_isWord (d + 4) 13 I J rv sp 3 w nw g236 hg236) (fun v h hq => ?_)
        obtain ⟨rfl, rfl⟩ := hq
        refine mm_T.br (c := g236 = 0) (a := ((60, [some (.ref 16), some (.int y1), some (.int y2)], []), (107, I, J, mm_rf rv sp 3 w nw))) (b := ((28, [some (.ref 16), some (.int y1), some (.int y2)], []), (107, I, J, mm_rf rv sp 3 w nw))) rfl (fun h1653 => ?_) (fun h1653 => ?_)
        · rw [if_pos h1653] at e
          cases e
          refine mm_T.mask [false, false, false] ?_
          exact ke _ _ _ rfl
        · rw [if_neg h1653] at e
          refine mm_T.seg (f' := (29, [some (.ref 16), some (.int y1), some (.int y2)], [(.ref 16)])) (h' := (107, I, J, mm_rf rv sp 3 w nw)) 1 rfl ?_
          obtain ⟨o1654, eo1654, e⟩ := mm_bind e
          refine mm_T.call (t := 34) (as := [(.ref 16)]) (f' := (32, [some (.ref 16), some (.int y1), some (.int y2)], [])) rfl (tX4_advance (d + 0) n I J rv sp 3 w nw o1654 eo1654) (fun v h hq => ?_)
          obtain ⟨rfl, rfl⟩ := hq
          refine mm_T.seg (f' := (34, [some (.ref 16), some (.int y1), some (.int y2)], [(.int y1), (.ref 16)])) (h' := (107, o1654.1, o1654.2, mm_rf rv sp 3 w nw)) 2 rfl ?_
          obtain ⟨o1655, eo1655, e⟩ := mm_bind e
          refine mm_T.call (t := 56) (as := [(.ref 16), (.int y1)]) (f' := (37, [some (.ref 16), some (.int y1), some (.int y2)], [])) rfl (mm_T.deep (hrec y1 o1654.1 o1654.2 rv sp 3 w nw (Or.inl rfl) o1655 eo1655) (by omega)) (fun v h hq => ?_)
          obtain ⟨rfl, rfl⟩ := hq
          refine mm_T.br (c := o1655.1 = 0) (a := ((40, [some (.ref 16), some (.int y1), some (.int y2)], []), (107, o1655.2.1, o1655.2.2, mm_rf rv sp 3 w nw))) (b := ((42, [some (.ref 16), some (.int y1), some (.int y2)], []), (107, o1655.2.1, o1655.2.2, mm_rf rv sp 3 w nw))) rfl (fun h1656 => ?_) (fun h1656 => ?_)
          · rw [if_pos h1656] at e
            refine mm_T.seg (f' := (41, [some (.ref 16), some (.int y1), some (.int y2)], [(.int 0)])) (h' := (107, o1655.2.1, o1655.2.2, mm_rf rv sp 3 w nw)) 1 rfl ?_
            cases e
            exact mm_T.ret rfl (kr _ _ _ rfl)
          · rw [if_neg h1656] at e
            refine mm_T.seg (f' := (46, [some (.ref 16), some (.int y1), some (.int y2)], [(.ref 3)])) (h' := (107, o1655.2.1, o1655.2.2, mm_rf rv sp 3 w nw)) 2 rfl ?_
            refine mm_T.seg (f' := (51, [some (.ref 16), some (.int y1), some (.int y2)], [(.int (-9)), (.ref (3 + 1))])) (h' := (107, o1655.2.1, o1655.2.2, mm_rf rv sp 3 w nw)) 2 rfl ?_
            obtain ⟨o1657, eo1657, e⟩ := mm_bind e
            refine mm_T.call (t := 2) (as := [(.ref (3 + 1)), (.int (-9))]) (f' := (54, [some (.ref 16), some (.int y1), some (.int y2)], [])) rfl (tX0_add (d + 4) (-9) (3 + 1) o1655.2.1 o1655.2.2 rv sp 3 w nw (Or.inl rfl) o1657 eo1657) (fun v h hq => ?_)
            obtain ⟨rfl, rfl⟩ := hq
            refine mm_T.seg (f' := (12, [some (.ref 16), some (.int y1), some (.int (y2 + 1))], [])) (h' := (107, o1657, o1655.2.2, mm_rf rv sp 3 w nw)) 2 rfl ?_
            refine mm_T.mask [true, true, true] ?_
            exact ih y1 (y2 + 1) o1657 o1655.2.2 rv sp 3 w nw (Or.inl rfl) out e kr ke
      · rw [if_neg h1652] at e
        cases e
        refine mm_T.mask [false, false, false] ?_
        exact ke _ _ _ rfl
    · rw [fX4_readBoth_L12] at e
      refine mm_T.seg (f' := (16, [some (.ref 16), some (.int y1), some (.int y2)], [(.int 1600), (.int y2)])) (h' := (107, I, J, mm_rf rv sp 19 w nw)) 2 rfl ?_
      refine mm_T.br (c := y2 < 1600) (a := ((19, [some (.ref 16), some (.int y1), some (.int y2)], []), (107, I, J, mm_rf rv sp 19 w nw))) (b := ((60, [some (.ref 16), some (.int y1), some (.int y2)], []), (107, I, J, mm_rf rv sp 19 w nw))) rfl (fun h1652 => ?_) (fun h1652 => ?_)
      · rw [if_pos h1652] at e
        refine mm_T.seg (f' := (22, [some (.ref 16), some (.int y1), some (.int y2)], [(.int 13), (.ref 16)])) (h' := (107, I, J, mm_rf rv sp 19 w nw)) 2 rfl ?_
        obtain ⟨g236, hg236⟩ : ∃ z, fX4_isWord 13 I = z := ⟨_, rfl⟩
        try rw [hg236] at e
        refine mm_T.call (t := 38) (as := [(.ref 16), (.int 13)]) (f' := (25, [some (.ref 16), some (.int y1), some (.int y2)], [])) rfl (tX4_isWord (d + 4) 13 I J rv sp 19 w nw g236 hg236) (fun v h hq => ?_)
        obtain ⟨rfl, rfl⟩ := hq
        refine mm_T.br (c := g236 = 0) (a := ((60, [some (.ref 16), some (.int y1), some (.int y2)], []), (107, I, J, mm_rf rv sp 19 w nw))) (b := ((28, [some (.ref 16), some (.int y1), some (.int y2)], []), (107, I, J, mm_rf rv sp 19 w nw))) rfl (fun h1653 => ?_) (fun h1653 => ?_)
        · rw [if_pos h1653] at e
          cases e
          refine mm_T.mask [false, false, false] ?_
          exact ke _ _ _ rfl
        · rw [if_neg h1653] at e
          refine mm_T.seg (f' := (29, [some (.ref 16), some (.int y1), some (.int y2)], [(.ref 16)])) (h' := (107, I, J, mm_rf rv sp 19 w nw)) 1 rfl ?_
          obtain ⟨o1654, eo1654, e⟩ := mm_bind e
          refine mm_T.call (t := 34) (as := [(.ref 16)]) (f' := (32, [some (.ref 16), some (.int y1), some (.int y2)], [])) rfl (tX4_advance (d + 0) n I J rv sp 19 w nw o1654 eo1654) (fun v h hq => ?_)
          obtain ⟨rfl, rfl⟩ := hq
          refine mm_T.seg (f' := (34, [some (.ref 16), some (.int y1), some (.int y2)], [(.int y1), (.ref 16)])) (h' := (107, o1654.1, o1654.2, mm_rf rv sp 19 w nw)) 2 rfl ?_
          obtain ⟨o1655, eo1655, e⟩ := mm_bind e
          refine mm_T.call (t := 56) (as := [(.ref 16), (.int y1)]) (f' := (37, [some (.ref 16), some (.int y1), some (.int y2)], [])) rfl (mm_T.deep (hrec y1 o1654.1 o1654.2 rv sp 19 w nw (Or.inr rfl) o1655 eo1655) (by omega)) (fun v h hq => ?_)
          obtain ⟨rfl, rfl⟩ := hq
          refine mm_T.br (c := o1655.1 = 0) (a := ((40, [some (.ref 16), some (.int y1), some (.int y2)], []), (107, o1655.2.1, o1655.2.2, mm_rf rv sp 19 w nw))) (b := ((42, [some (.ref 16), some (.int y1), some (.int y2)], []), (107, o1655.2.1, o1655.2.2, mm_rf rv sp 19 w nw))) rfl (fun h1656 => ?_) (fun h1656 => ?_)
          · rw [if_pos h1656] at e
            refine mm_T.seg (f' := (41, [some (.ref 16), some (.int y1), some (.int y2)], [(.int 0)])) (h' := (107, o1655.2.1, o1655.2.2, mm_rf rv sp 19 w nw)) 1 rfl ?_
            cases e
            exact mm_T.ret rfl (kr _ _ _ rfl)
          · rw [if_neg h1656] at e
            refine mm_T.seg (f' := (46, [some (.ref 16), some (.int y1), some (.int y2)], [(.ref 19)])) (h' := (107, o1655.2.1, o1655.2.2, mm_rf rv sp 19 w nw)) 2 rfl ?_
            refine mm_T.seg (f' := (51, [some (.ref 16), some (.int y1), some (.int y2)], [(.int (-9)), (.ref (19 + 1))])) (h' := (107, o1655.2.1, o1655.2.2, mm_rf rv sp 19 w nw)) 2 rfl ?_
            obtain ⟨o1657, eo1657, e⟩ := mm_bind e
            refine mm_T.call (t := 2) (as := [(.ref (19 + 1)), (.int (-9))]) (f' := (54, [some (.ref 16), some (.int y1), some (.int y2)], [])) rfl (tX0_add (d + 4) (-9) (19 + 1) o1655.2.1 o1655.2.2 rv sp 19 w nw (Or.inr rfl) o1657 eo1657) (fun v h hq => ?_)
            obtain ⟨rfl, rfl⟩ := hq
            refine mm_T.seg (f' := (12, [some (.ref 16), some (.int y1), some (.int (y2 + 1))], [])) (h' := (107, o1657, o1655.2.2, mm_rf rv sp 19 w nw)) 2 rfl ?_
            refine mm_T.mask [true, true, true] ?_
            exact ih y1 (y2 + 1) o1657 o1655.2.2 rv sp 19 w nw (Or.inr rfl) out e kr ke
      · rw [if_neg h1652] at e
        cases e
        refine mm_T.mask [false, false, false] ?_
        exact ke _ _ _ rfl
set_option maxRecDepth 100000 in
set_option maxHeartbeats 4000000 in
theorem tX4_readBoth (d n : Nat) (rec : Int32 → (Nat → Nat → Int32) → (Nat → Nat → Int64) → Nat → Option (Int32 × (Nat → Nat → Int32) × (Nat → Nat → Int64))) (hrec : ∀ (x1 : Int32) (I : Nat → Nat → Int32) (J : Nat → Nat → Int64) (rv sp rr w nw : Nat), (rr = 3 ∨ rr = 19) → ∀ (out : Int32 × (Nat → Nat → Int32) × (Nat → Nat → Int64)), rec x1 I J rr = some out → mm_T none d 56 (mm_ent 56 [(.ref 16), (.int x1)]) (107, I, J, mm_rf rv sp rr w nw) (fun v h => v = some (.int out.1) ∧ h = (107, out.2.1, out.2.2, mm_rf rv sp rr w nw))) (x1 : Int32) (I : Nat → Nat → Int32) (J : Nat → Nat → Int64) (rv sp rr w nw : Nat) (hrr : rr = 3 ∨ rr = 19) (out : Int32 × (Nat → Nat → Int32) × (Nat → Nat → Int64)) (e : fX4_readBoth n rec x1 I J rr = some out) : mm_T none (d + 5) 55 (mm_ent 55 [(.ref 16), (.int x1)]) (107, I, J, mm_rf rv sp rr w nw) (fun v h => v = some (.int out.1) ∧ h = (107, out.2.1, out.2.2, mm_rf rv sp rr w nw)) := by
  rcases hrr with rfl | rfl
  · unfold fX4_readBoth at e
    refine mm_T.seg (f' := (2, [some (.ref 16), some (.int x1), none], [(.int x1), (.ref 16)])) (h' := (107, I, J, mm_rf rv sp 3 w nw)) 2 rfl ?_
    obtain ⟨o1644, eo1644, e⟩ := mm_bind e
    refine mm_T.call (t := 56) (as := [(.ref 16), (.int x1)]) (f' := (5, [some (.ref 16), some (.int x1), none], [])) rfl (mm_T.deep (hrec x1 I J rv sp 3 w nw (Or.inl rfl) o1644 eo1644) (by omega)) (fun v h hq => ?_)
    obtain ⟨rfl, rfl⟩ := hq
    refine mm_T.br (c := o1644.1 = 0) (a := ((8, [some (.ref 16), some (.int x1), none], []), (107, o1644.2.1, o1644.2.2, mm_rf rv sp 3 w nw))) (b := ((10, [some (.ref 16), some (.int x1), none], []), (107, o1644.2.1, o1644.2.2, mm_rf rv sp 3 w nw))) rfl (fun h1645 => ?_) (fun h1645 => ?_)
    · rw [if_pos h1645] at e
      refine mm_T.seg (f' := (9, [some (.ref 16), some (.int x1), none], [(.int 0)])) (h' := (107, o1644.2.1, o1644.2.2, mm_rf rv sp 3 w nw)) 1 rfl ?_
      cases e
      exact mm_T.ret rfl ⟨rfl, rfl⟩
    · rw [if_neg h1645] at e
      refine mm_T.seg (f' := (12, [some (.ref 16), some (.int x1), some (.int 0)], [])) (h' := (107, o1644.2.1, o1644.2.2, mm_rf rv sp 3 w nw)) 2 rfl ?_
      refine mm_T.mask [true, true, true] ?_
      obtain ⟨o1658, eo1658, e⟩ := mm_bind e
      rcases o1658 with ⟨va1659 | vb1659, vs1659_0, vs1659_1⟩
      · cases e
        refine tlX4_readBoth_L12 d _ rec hrec n x1 0 o1644.2.1 o1644.2.2 rv sp 3 w nw (Or.inl rfl) _ eo1658 (fun z z0 z1 hz => ?_) (fun z z0 z1 hz => ?_)
        · cases hz; exact ⟨rfl, rfl⟩
        · cases hz
      · refine tlX4_readBoth_L12 d _ rec hrec n x1 0 o1644.2.1 o1644.2.2 rv sp 3 w nw (Or.inl rfl) (.inr vb1659, vs1659_0, vs1659_1) eo1658 (fun z z0 z1 hz => ?_) (fun z z0 z1 hz => ?_)
        · cases hz
        · cases hz
          refine mm_T.seg (f' := (61, [none, none, none], [(.int 1)])) (h' := (107, vs1659_0, vs1659_1, mm_rf rv sp 3 w nw)) 1 rfl ?_
          cases e
          exact mm_T.ret rfl ⟨rfl, rfl⟩
  · unfold fX4_readBoth at e
    refine mm_T.seg (f' := (2, [some (.ref 16), some (.int x1), none], [(.int x1), (.ref 16)])) (h' := (107, I, J, mm_rf rv sp 19 w nw)) 2 rfl ?_
    obtain ⟨o1644, eo1644, e⟩ := mm_bind e
    refine mm_T.call (t := 56) (as := [(.ref 16), (.int x1)]) (f' := (5, [some (.ref 16), some (.int x1), none], [])) rfl (mm_T.deep (hrec x1 I J rv sp 19 w nw (Or.inr rfl) o1644 eo1644) (by omega)) (fun v h hq => ?_)
    obtain ⟨rfl, rfl⟩ := hq
    refine mm_T.br (c := o1644.1 = 0) (a := ((8, [some (.ref 16), some (.int x1), none], []), (107, o1644.2.1, o1644.2.2, mm_rf rv sp 19 w nw))) (b := ((10, [some (.ref 16), some (.int x1), none], []), (107, o1644.2.1, o1644.2.2, mm_rf rv sp 19 w nw))) rfl (fun h1645 => ?_) (fun h1645 => ?_)
    · rw [if_pos h1645] at e
      refine mm_T.seg (f' := (9, [some (.ref 16), some (.int x1), none], [(.int 0)])) (h' := (107, o1644.2.1, o1644.2.2, mm_rf rv sp 19 w nw)) 1 rfl ?_
      cases e
      exact mm_T.ret rfl ⟨rfl, rfl⟩
    · rw [if_neg h1645] at e
      refine mm_T.seg (f' := (12, [some (.ref 16), some (.int x1), some (.int 0)], [])) (h' := (107, o1644.2.1, o1644.2.2, mm_rf rv sp 19 w nw)) 2 rfl ?_
      refine mm_T.mask [true, true, true] ?_
      obtain ⟨o1658, eo1658, e⟩ := mm_bind e
      rcases o1658 with ⟨va1659 | vb1659, vs1659_0, vs1659_1⟩
      · cases e
        refine tlX4_readBoth_L12 d _ rec hrec n x1 0 o1644.2.1 o1644.2.2 rv sp 19 w nw (Or.inr rfl) _ eo1658 (fun z z0 z1 hz => ?_) (fun z z0 z1 hz => ?_)
        · cases hz; exact ⟨rfl, rfl⟩
        · cases hz
      · refine tlX4_readBoth_L12 d _ rec hrec n x1 0 o1644.2.1 o1644.2.2 rv sp 19 w nw (Or.inr rfl) (.inr vb1659, vs1659_0, vs1659_1) eo1658 (fun z z0 z1 hz => ?_) (fun z z0 z1 hz => ?_)
        · cases hz
        · cases hz
          refine mm_T.seg (f' := (61, [none, none, none], [(.int 1)])) (h' := (107, vs1659_0, vs1659_1, mm_rf rv sp 19 w nw)) 1 rfl ?_
          cases e
          exact mm_T.ret rfl ⟨rfl, rfl⟩
set_option maxRecDepth 100000 in
set_option maxHeartbeats 4000000 in
theorem tlX4_readAny_L12 (d : Nat) (Q : Option Value → mm_H → Prop) (rec : Int32 → (Nat → Nat → Int32) → (Nat → Nat → Int64) → Nat → Option (Int32 × (Nat → Nat → Int32) × (Nat → Nat → Int64))) (hrec : ∀ (x1 : Int32) (I : Nat → Nat → Int32) (J : Nat → Nat → Int64) (rv sp rr w nw : Nat), (rr = 3 ∨ rr = 19) → ∀ (out : Int32 × (Nat → Nat → Int32) × (Nat → Nat → Int64)), rec x1 I J rr = some out → mm_T none d 56 (mm_ent 56 [(.ref 16), (.int x1)]) (107, I, J, mm_rf rv sp rr w nw) (fun v h => v = some (.int out.1) ∧ h = (107, out.2.1, out.2.2, mm_rf rv sp rr w nw))) : ∀ (n : Nat) (y1 : Int32) (y2 : Int32) (I : Nat → Nat → Int32) (J : Nat → Nat → Int64) (rv sp rr w nw : Nat), (rr = 3 ∨ rr = 19) → ∀ (out : (Int32 ⊕ (Unit)) × (Nat → Nat → Int32) × (Nat → Nat → Int64)), fX4_readAny_L12 n rec y1 y2 I J rr = some out → (∀ (r : Int32) (s0 : Nat → Nat → Int32) (s1 : Nat → Nat → Int64), out = (.inl r, s0, s1) → Q (some (.int r)) (107, s0, s1, mm_rf rv sp rr w nw)) → (∀ (y : Unit) (s0 : Nat → Nat → Int32) (s1 : Nat → Nat → Int64), out = (.inr y, s0, s1) → mm_T none (d + 6) 54 (60, [none, none, none], []) (107, s0, s1, mm_rf rv sp rr w nw) Q) → mm_T none (d + 6) 54 (12, [some (.ref 16), some (.int y1), some (.int y2)], []) (107, I, J, mm_rf rv sp rr w nw) Q := by
  intro n
  induction n with
  | zero =>
    intro y1 y2 I J rv sp rr w nw hrr out e kr ke
    rw [fX4_readAny_L12] at e; cases e
  | succ n ih =>
    intro y1 y2 I J rv sp rr w nw hrr out e kr ke
    rcases hrr with rfl | rfl
    · rw [fX4_readAny_L12] at e
      refine mm_T.seg (f' := (16, [some (.ref 16), some (.int y1), some (.int y2)], [(.int 1600), (.int y2)])) (h' := (107, I, J, mm_rf rv sp 3 w nw)) 2 rfl ?_
      refine mm_T.br (c := y2 < 1600) (a := ((19, [some (.ref 16), some (.int y1), some (.int y2)], []), (107, I, J, mm_rf rv sp 3 w nw))) (b := ((60, [some (.ref 16), some (.int y1), some (.int y2)], []), (107, I, J, mm_rf rv sp 3 w nw))) rfl (fun h1668 => ?_) (fun h1668 => ?_)
      · rw [if_pos h1668] at e
        refine mm_T.seg (f' := (22, [some (.ref 16), some (.int y1), some (.int y2)], [(.int 12), (.ref 16)])) (h' := (107, I, J, mm_rf rv sp 3 w nw)) 2 rfl ?_
        obtain ⟨g238, hg238⟩ : ∃ z, fX4_isWord 12 I = z := ⟨_, rfl⟩
        try rw [hg238] at e
        refine mm_T.call (t := 38) (as := [(.ref 16), (.int 12)]) (f' := (25, [some (.ref 16), some (.int y1), some (.int y2)], [])) rfl (tX4_isWord (d + 5) 12 I J rv sp 3 w nw g238 hg238) (fun v h hq => ?_)
        obtain ⟨rfl, rfl⟩ := hq
        refine mm_T.br (c := g238 = 0) (a := ((60, [some (.ref 16), some (.int y1), some (.int y2)], []), (107, I, J, mm_rf rv sp 3 w nw))) (b := ((28, [some (.ref 16), some (.int y1), some (.int y2)], []), (107, I, J, mm_rf rv sp 3 w nw))) rfl (fun h1669 => ?_) (fun h1669 => ?_)
        · rw [if_pos h1669] at e
          cases e
          refine mm_T.mask [false, false, false] ?_
          exact ke _ _ _ rfl
        · rw [if_neg h1669] at e
          refine mm_T.seg (f' := (29, [some (.ref 16), some (.int y1), some (.int y2)], [(.ref 16)])) (h' := (107, I, J, mm_rf rv sp 3 w nw)) 1 rfl ?_
          obtain ⟨o1670, eo1670, e⟩ := mm_bind e
          refine mm_T.call (t := 34) (as := [(.ref 16)]) (f' := (32, [some (.ref 16), some (.int y1), some (.int y2)], [])) rfl (tX4_advance (d + 1) n I J rv sp 3 w nw o1670 eo1670) (fun v h hq => ?_)
          obtain ⟨rfl, rfl⟩ := hq
          refine mm_T.seg (f' := (34, [some (.ref 16), some (.int y1), some (.int y2)], [(.int y1), (.ref 16)])) (h' := (107, o1670.1, o1670.2, mm_rf rv sp 3 w nw)) 2 rfl ?_
          obtain ⟨o1671, eo1671, e⟩ := mm_bind e
          refine mm_T.call (t := 55) (as := [(.ref 16), (.int y1)]) (f' := (37, [some (.ref 16), some (.int y1), some (.int y2)], [])) rfl (mm_T.deep (tX4_readBoth d n rec hrec y1 o1670.1 o1670.2 rv sp 3 w nw (Or.inl rfl) o1671 eo1671) (by omega)) (fun v h hq => ?_)
          obtain ⟨rfl, rfl⟩ := hq
          refine mm_T.br (c := o1671.1 = 0) (a := ((40, [some (.ref 16), some (.int y1), some (.int y2)], []), (107, o1671.2.1, o1671.2.2, mm_rf rv sp 3 w nw))) (b := ((42, [some (.ref 16), some (.int y1), some (.int y2)], []), (107, o1671.2.1, o1671.2.2, mm_rf rv sp 3 w nw))) rfl (fun h1672 => ?_) (fun h1672 => ?_)
          · rw [if_pos h1672] at e
            refine mm_T.seg (f' := (41, [some (.ref 16), some (.int y1), some (.int y2)], [(.int 0)])) (h' := (107, o1671.2.1, o1671.2.2, mm_rf rv sp 3 w nw)) 1 rfl ?_
            cases e
            exact mm_T.ret rfl (kr _ _ _ rfl)
          · rw [if_neg h1672] at e
            refine mm_T.seg (f' := (46, [some (.ref 16), some (.int y1), some (.int y2)], [(.ref 3)])) (h' := (107, o1671.2.1, o1671.2.2, mm_rf rv sp 3 w nw)) 2 rfl ?_
            refine mm_T.seg (f' := (51, [some (.ref 16), some (.int y1), some (.int y2)], [(.int (-8)), (.ref (3 + 1))])) (h' := (107, o1671.2.1, o1671.2.2, mm_rf rv sp 3 w nw)) 2 rfl ?_
            obtain ⟨o1673, eo1673, e⟩ := mm_bind e
            refine mm_T.call (t := 2) (as := [(.ref (3 + 1)), (.int (-8))]) (f' := (54, [some (.ref 16), some (.int y1), some (.int y2)], [])) rfl (tX0_add (d + 5) (-8) (3 + 1) o1671.2.1 o1671.2.2 rv sp 3 w nw (Or.inl rfl) o1673 eo1673) (fun v h hq => ?_)
            obtain ⟨rfl, rfl⟩ := hq
            refine mm_T.seg (f' := (12, [some (.ref 16), some (.int y1), some (.int (y2 + 1))], [])) (h' := (107, o1673, o1671.2.2, mm_rf rv sp 3 w nw)) 2 rfl ?_
            refine mm_T.mask [true, true, true] ?_
            exact ih y1 (y2 + 1) o1673 o1671.2.2 rv sp 3 w nw (Or.inl rfl) out e kr ke
      · rw [if_neg h1668] at e
        cases e
        refine mm_T.mask [false, false, false] ?_
        exact ke _ _ _ rfl
    · rw [fX4_readAny_L12] at e
      refine mm_T.seg (f' := (16, [some (.ref 16), some (.int y1), some (.int y2)], [(.int 1600), (.int y2)])) (h' := (107, I, J, mm_rf rv sp 19 w nw)) 2 rfl ?_
      refine mm_T.br (c := y2 < 1600) (a := ((19, [some (.ref 16), some (.int y1), some (.int y2)], []), (107, I, J, mm_rf rv sp 19 w nw))) (b := ((60, [some (.ref 16), some (.int y1), some (.int y2)], []), (107, I, J, mm_rf rv sp 19 w nw))) rfl (fun h1668 => ?_) (fun h1668 => ?_)
      · rw [if_pos h1668] at e
        refine mm_T.seg (f' := (22, [some (.ref 16), some (.int y1), some (.int y2)], [(.int 12), (.ref 16)])) (h' := (107, I, J, mm_rf rv sp 19 w nw)) 2 rfl ?_
        obtain ⟨g238, hg238⟩ : ∃ z, fX4_isWord 12 I = z := ⟨_, rfl⟩
        try rw [hg238] at e
        refine mm_T.call (t := 38) (as := [(.ref 16), (.int 12)]) (f' := (25, [some (.ref 16), some (.int y1), some (.int y2)], [])) rfl (tX4_isWord (d + 5) 12 I J rv sp 19 w nw g238 hg238) (fun v h hq => ?_)
        obtain ⟨rfl, rfl⟩ := hq
        refine mm_T.br (c := g238 = 0) (a := ((60, [some (.ref 16), some (.int y1), some (.int y2)], []), (107, I, J, mm_rf rv sp 19 w nw))) (b := ((28, [some (.ref 16), some (.int y1), some (.int y2)], []), (107, I, J, mm_rf rv sp 19 w nw))) rfl (fun h1669 => ?_) (fun h1669 => ?_)
        · rw [if_pos h1669] at e
          cases e
          refine mm_T.mask [false, false, false] ?_
          exact ke _ _ _ rfl
        · rw [if_neg h1669] at e
          refine mm_T.seg (f' := (29, [some (.ref 16), some (.int y1), some (.int y2)], [(.ref 16)])) (h' := (107, I, J, mm_rf rv sp 19 w nw)) 1 rfl ?_
          obtain ⟨o1670, eo1670, e⟩ := mm_bind e
          refine mm_T.call (t := 34) (as := [(.ref 16)]) (f' := (32, [some (.ref 16), some (.int y1), some (.int y2)], [])) rfl (tX4_advance (d + 1) n I J rv sp 19 w nw o1670 eo1670) (fun v h hq => ?_)
          obtain ⟨rfl, rfl⟩ := hq
          refine mm_T.seg (f' := (34, [some (.ref 16), some (.int y1), some (.int y2)], [(.int y1), (.ref 16)])) (h' := (107, o1670.1, o1670.2, mm_rf rv sp 19 w nw)) 2 rfl ?_
          obtain ⟨o1671, eo1671, e⟩ := mm_bind e
          refine mm_T.call (t := 55) (as := [(.ref 16), (.int y1)]) (f' := (37, [some (.ref 16), some (.int y1), some (.int y2)], [])) rfl (mm_T.deep (tX4_readBoth d n rec hrec y1 o1670.1 o1670.2 rv sp 19 w nw (Or.inr rfl) o1671 eo1671) (by omega)) (fun v h hq => ?_)
          obtain ⟨rfl, rfl⟩ := hq
          refine mm_T.br (c := o1671.1 = 0) (a := ((40, [some (.ref 16), some (.int y1), some (.int y2)], []), (107, o1671.2.1, o1671.2.2, mm_rf rv sp 19 w nw))) (b := ((42, [some (.ref 16), some (.int y1), some (.int y2)], []), (107, o1671.2.1, o1671.2.2, mm_rf rv sp 19 w nw))) rfl (fun h1672 => ?_) (fun h1672 => ?_)
          · rw [if_pos h1672] at e
            refine mm_T.seg (f' := (41, [some (.ref 16), some (.int y1), some (.int y2)], [(.int 0)])) (h' := (107, o1671.2.1, o1671.2.2, mm_rf rv sp 19 w nw)) 1 rfl ?_
            cases e
            exact mm_T.ret rfl (kr _ _ _ rfl)
          · rw [if_neg h1672] at e
            refine mm_T.seg (f' := (46, [some (.ref 16), some (.int y1), some (.int y2)], [(.ref 19)])) (h' := (107, o1671.2.1, o1671.2.2, mm_rf rv sp 19 w nw)) 2 rfl ?_
            refine mm_T.seg (f' := (51, [some (.ref 16), some (.int y1), some (.int y2)], [(.int (-8)), (.ref (19 + 1))])) (h' := (107, o1671.2.1, o1671.2.2, mm_rf rv sp 19 w nw)) 2 rfl ?_
            obtain ⟨o1673, eo1673, e⟩ := mm_bind e
            refine mm_T.call (t := 2) (as := [(.ref (19 + 1)), (.int (-8))]) (f' := (54, [some (.ref 16), some (.int y1), some (.int y2)], [])) rfl (tX0_add (d + 5) (-8) (19 + 1) o1671.2.1 o1671.2.2 rv sp 19 w nw (Or.inr rfl) o1673 eo1673) (fun v h hq => ?_)
            obtain ⟨rfl, rfl⟩ := hq
            refine mm_T.seg (f' := (12, [some (.ref 16), some (.int y1), some (.int (y2 + 1))], [])) (h' := (107, o1673, o1671.2.2, mm_rf rv sp 19 w nw)) 2 rfl ?_
            refine mm_T.mask [true, true, true] ?_
            exact ih y1 (y2 + 1) o1673 o1671.2.2 rv sp 19 w nw (Or.inr rfl) out e kr ke
      · rw [if_neg h1668] at e
        cases e
        refine mm_T.mask [false, false, false] ?_
        exact ke _ _ _ rfl
set_option maxRecDepth 100000 in
set_option maxHeartbeats 4000000 in
theorem tX4_readAny (d n : Nat) (rec : Int32 → (Nat → Nat → Int32) → (Nat → Nat → Int64) → Nat → Option (Int32 × (Nat → Nat → Int32) × (Nat → Nat → Int64))) (hrec : ∀ (x1 : Int32) (I : Nat → Nat → Int32) (J : Nat → Nat → Int64) (rv sp rr w nw : Nat), (rr = 3 ∨ rr = 19) → ∀ (out : Int32 × (Nat → Nat → Int32) × (Nat → Nat → Int64)), rec x1 I J rr = some out → mm_T none d 56 (mm_ent 56 [(.ref 16), (.int x1)]) (107, I, J, mm_rf rv sp rr w nw) (fun v h => v = some (.int out.1) ∧ h = (107, out.2.1, out.2.2, mm_rf rv sp rr w nw))) (x1 : Int32) (I : Nat → Nat → Int32) (J : Nat → Nat → Int64) (rv sp rr w nw : Nat) (hrr : rr = 3 ∨ rr = 19) (out : Int32 × (Nat → Nat → Int32) × (Nat → Nat → Int64)) (e : fX4_readAny n rec x1 I J rr = some out) : mm_T none (d + 6) 54 (mm_ent 54 [(.ref 16), (.int x1)]) (107, I, J, mm_rf rv sp rr w nw) (fun v h => v = some (.int out.1) ∧ h = (107, out.2.1, out.2.2, mm_rf rv sp rr w nw)) := by
  rcases hrr with rfl | rfl
  · unfold fX4_readAny at e
    refine mm_T.seg (f' := (2, [some (.ref 16), some (.int x1), none], [(.int x1), (.ref 16)])) (h' := (107, I, J, mm_rf rv sp 3 w nw)) 2 rfl ?_
    obtain ⟨o1660, eo1660, e⟩ := mm_bind e
    refine mm_T.call (t := 55) (as := [(.ref 16), (.int x1)]) (f' := (5, [some (.ref 16), some (.int x1), none], [])) rfl (mm_T.deep (tX4_readBoth d n rec hrec x1 I J rv sp 3 w nw (Or.inl rfl) o1660 eo1660) (by omega)) (fun v h hq => ?_)
    obtain ⟨rfl, rfl⟩ := hq
    refine mm_T.br (c := o1660.1 = 0) (a := ((8, [some (.ref 16), some (.int x1), none], []), (107, o1660.2.1, o1660.2.2, mm_rf rv sp 3 w nw))) (b := ((10, [some (.ref 16), some (.int x1), none], []), (107, o1660.2.1, o1660.2.2, mm_rf rv sp 3 w nw))) rfl (fun h1661 => ?_) (fun h1661 => ?_)
    · rw [if_pos h1661] at e
      refine mm_T.seg (f' := (9, [some (.ref 16), some (.int x1), none], [(.int 0)])) (h' := (107, o1660.2.1, o1660.2.2, mm_rf rv sp 3 w nw)) 1 rfl ?_
      cases e
      exact mm_T.ret rfl ⟨rfl, rfl⟩
    · rw [if_neg h1661] at e
      refine mm_T.seg (f' := (12, [some (.ref 16), some (.int x1), some (.int 0)], [])) (h' := (107, o1660.2.1, o1660.2.2, mm_rf rv sp 3 w nw)) 2 rfl ?_
      refine mm_T.mask [true, true, true] ?_
      obtain ⟨o1674, eo1674, e⟩ := mm_bind e
      rcases o1674 with ⟨va1675 | vb1675, vs1675_0, vs1675_1⟩
      · cases e
        refine tlX4_readAny_L12 d _ rec hrec n x1 0 o1660.2.1 o1660.2.2 rv sp 3 w nw (Or.inl rfl) _ eo1674 (fun z z0 z1 hz => ?_) (fun z z0 z1 hz => ?_)
        · cases hz; exact ⟨rfl, rfl⟩
        · cases hz
      · refine tlX4_readAny_L12 d _ rec hrec n x1 0 o1660.2.1 o1660.2.2 rv sp 3 w nw (Or.inl rfl) (.inr vb1675, vs1675_0, vs1675_1) eo1674 (fun z z0 z1 hz => ?_) (fun z z0 z1 hz => ?_)
        · cases hz
        · cases hz
          refine mm_T.seg (f' := (61, [none, none, none], [(.int 1)])) (h' := (107, vs1675_0, vs1675_1, mm_rf rv sp 3 w nw)) 1 rfl ?_
          cases e
          exact mm_T.ret rfl ⟨rfl, rfl⟩
  · unfold fX4_readAny at e
    refine mm_T.seg (f' := (2, [some (.ref 16), some (.int x1), none], [(.int x1), (.ref 16)])) (h' := (107, I, J, mm_rf rv sp 19 w nw)) 2 rfl ?_
    obtain ⟨o1660, eo1660, e⟩ := mm_bind e
    refine mm_T.call (t := 55) (as := [(.ref 16), (.int x1)]) (f' := (5, [some (.ref 16), some (.int x1), none], [])) rfl (mm_T.deep (tX4_readBoth d n rec hrec x1 I J rv sp 19 w nw (Or.inr rfl) o1660 eo1660) (by omega)) (fun v h hq => ?_)
    obtain ⟨rfl, rfl⟩ := hq
    refine mm_T.br (c := o1660.1 = 0) (a := ((8, [some (.ref 16), some (.int x1), none], []), (107, o1660.2.1, o1660.2.2, mm_rf rv sp 19 w nw))) (b := ((10, [some (.ref 16), some (.int x1), none], []), (107, o1660.2.1, o1660.2.2, mm_rf rv sp 19 w nw))) rfl (fun h1661 => ?_) (fun h1661 => ?_)
    · rw [if_pos h1661] at e
      refine mm_T.seg (f' := (9, [some (.ref 16), some (.int x1), none], [(.int 0)])) (h' := (107, o1660.2.1, o1660.2.2, mm_rf rv sp 19 w nw)) 1 rfl ?_
      cases e
      exact mm_T.ret rfl ⟨rfl, rfl⟩
    · rw [if_neg h1661] at e
      refine mm_T.seg (f' := (12, [some (.ref 16), some (.int x1), some (.int 0)], [])) (h' := (107, o1660.2.1, o1660.2.2, mm_rf rv sp 19 w nw)) 2 rfl ?_
      refine mm_T.mask [true, true, true] ?_
      obtain ⟨o1674, eo1674, e⟩ := mm_bind e
      rcases o1674 with ⟨va1675 | vb1675, vs1675_0, vs1675_1⟩
      · cases e
        refine tlX4_readAny_L12 d _ rec hrec n x1 0 o1660.2.1 o1660.2.2 rv sp 19 w nw (Or.inr rfl) _ eo1674 (fun z z0 z1 hz => ?_) (fun z z0 z1 hz => ?_)
        · cases hz; exact ⟨rfl, rfl⟩
        · cases hz
      · refine tlX4_readAny_L12 d _ rec hrec n x1 0 o1660.2.1 o1660.2.2 rv sp 19 w nw (Or.inr rfl) (.inr vb1675, vs1675_0, vs1675_1) eo1674 (fun z z0 z1 hz => ?_) (fun z z0 z1 hz => ?_)
        · cases hz
        · cases hz
          refine mm_T.seg (f' := (61, [none, none, none], [(.int 1)])) (h' := (107, vs1675_0, vs1675_1, mm_rf rv sp 19 w nw)) 1 rfl ?_
          cases e
          exact mm_T.ret rfl ⟨rfl, rfl⟩
set_option maxRecDepth 100000 in
set_option maxHeartbeats 4000000 in
theorem tX4_givenBy (d : Nat) (x0 : Int32) (I : Nat → Nat → Int32) (J : Nat → Nat → Int64) (rv sp rr w nw : Nat) (out : Int32) (e : fX4_givenBy x0 = out) : mm_T none (d + 0) 62 (mm_ent 62 [(.int x0)]) (107, I, J, mm_rf rv sp rr w nw) (fun v h => v = some (.int out) ∧ h = (107, I, J, mm_rf rv sp rr w nw)) := by
  unfold fX4_givenBy at e
  refine mm_T.seg (f' := (1, [some (.int x0)], [(.int x0)])) (h' := (107, I, J, mm_rf rv sp rr w nw)) 1 rfl ?_
  by_cases h1679 : x0 = 4
  · rw [if_pos h1679] at e
    refine mm_T.step (f' := (81, [some (.int x0)], [])) (h' := (107, I, J, mm_rf rv sp rr w nw)) (by first | (rw [h1679]; rfl) | exact absurd h1679 (by decide)) ?_
    refine mm_T.seg (f' := (83, [some (.int x0)], [(.int (-3))])) (h' := (107, I, J, mm_rf rv sp rr w nw)) 1 rfl ?_
    cases e
    exact mm_T.ret rfl ⟨rfl, rfl⟩
  · rw [if_neg h1679] at e
    by_cases h1680 : x0 = 5
    · rw [if_pos h1680] at e
      refine mm_T.step (f' := (93, [some (.int x0)], [])) (h' := (107, I, J, mm_rf rv sp rr w nw)) (by first | (rw [h1680]; rfl) | exact absurd h1680 (by decide)) ?_
      refine mm_T.seg (f' := (94, [some (.int x0)], [(.int 0)])) (h' := (107, I, J, mm_rf rv sp rr w nw)) 1 rfl ?_
      cases e
      exact mm_T.ret rfl ⟨rfl, rfl⟩
    · rw [if_neg h1680] at e
      by_cases h1681 : x0 = 6
      · rw [if_pos h1681] at e
        refine mm_T.step (f' := (93, [some (.int x0)], [])) (h' := (107, I, J, mm_rf rv sp rr w nw)) (by first | (rw [h1681]; rfl) | exact absurd h1681 (by decide)) ?_
        refine mm_T.seg (f' := (94, [some (.int x0)], [(.int 0)])) (h' := (107, I, J, mm_rf rv sp rr w nw)) 1 rfl ?_
        cases e
        exact mm_T.ret rfl ⟨rfl, rfl⟩
      · rw [if_neg h1681] at e
        by_cases h1682 : x0 = 7
        · rw [if_pos h1682] at e
          refine mm_T.step (f' := (93, [some (.int x0)], [])) (h' := (107, I, J, mm_rf rv sp rr w nw)) (by first | (rw [h1682]; rfl) | exact absurd h1682 (by decide)) ?_
          refine mm_T.seg (f' := (94, [some (.int x0)], [(.int 0)])) (h' := (107, I, J, mm_rf rv sp rr w nw)) 1 rfl ?_
          cases e
          exact mm_T.ret rfl ⟨rfl, rfl⟩
        · rw [if_neg h1682] at e
          by_cases h1683 : x0 = 8
          · rw [if_pos h1683] at e
            refine mm_T.step (f' := (93, [some (.int x0)], [])) (h' := (107, I, J, mm_rf rv sp rr w nw)) (by first | (rw [h1683]; rfl) | exact absurd h1683 (by decide)) ?_
            refine mm_T.seg (f' := (94, [some (.int x0)], [(.int 0)])) (h' := (107, I, J, mm_rf rv sp rr w nw)) 1 rfl ?_
            cases e
            exact mm_T.ret rfl ⟨rfl, rfl⟩
          · rw [if_neg h1683] at e
            by_cases h1684 : x0 = 9
            · rw [if_pos h1684] at e
              refine mm_T.step (f' := (93, [some (.int x0)], [])) (h' := (107, I, J, mm_rf rv sp rr w nw)) (by first | (rw [h1684]; rfl) | exact absurd h1684 (by decide)) ?_
              refine mm_T.seg (f' := (94, [some (.int x0)], [(.int 0)])) (h' := (107, I, J, mm_rf rv sp rr w nw)) 1 rfl ?_
              cases e
              exact mm_T.ret rfl ⟨rfl, rfl⟩
            · rw [if_neg h1684] at e
              by_cases h1685 : x0 = 10
              · rw [if_pos h1685] at e
                refine mm_T.step (f' := (84, [some (.int x0)], [])) (h' := (107, I, J, mm_rf rv sp rr w nw)) (by first | (rw [h1685]; rfl) | exact absurd h1685 (by decide)) ?_
                refine mm_T.seg (f' := (86, [some (.int x0)], [(.int (-4))])) (h' := (107, I, J, mm_rf rv sp rr w nw)) 1 rfl ?_
                cases e
                exact mm_T.ret rfl ⟨rfl, rfl⟩
              · rw [if_neg h1685] at e
                by_cases h1686 : x0 = 11
                · rw [if_pos h1686] at e
                  refine mm_T.step (f' := (93, [some (.int x0)], [])) (h' := (107, I, J, mm_rf rv sp rr w nw)) (by first | (rw [h1686]; rfl) | exact absurd h1686 (by decide)) ?_
                  refine mm_T.seg (f' := (94, [some (.int x0)], [(.int 0)])) (h' := (107, I, J, mm_rf rv sp rr w nw)) 1 rfl ?_
                  cases e
                  exact mm_T.ret rfl ⟨rfl, rfl⟩
                · rw [if_neg h1686] at e
                  by_cases h1687 : x0 = 12
                  · rw [if_pos h1687] at e
                    refine mm_T.step (f' := (93, [some (.int x0)], [])) (h' := (107, I, J, mm_rf rv sp rr w nw)) (by first | (rw [h1687]; rfl) | exact absurd h1687 (by decide)) ?_
                    refine mm_T.seg (f' := (94, [some (.int x0)], [(.int 0)])) (h' := (107, I, J, mm_rf rv sp rr w nw)) 1 rfl ?_
                    cases e
                    exact mm_T.ret rfl ⟨rfl, rfl⟩
                  · rw [if_neg h1687] at e
                    by_cases h1688 : x0 = 13
                    · rw [if_pos h1688] at e
                      refine mm_T.step (f' := (93, [some (.int x0)], [])) (h' := (107, I, J, mm_rf rv sp rr w nw)) (by first | (rw [h1688]; rfl) | exact absurd h1688 (by decide)) ?_
                      refine mm_T.seg (f' := (94, [some (.int x0)], [(.int 0)])) (h' := (107, I, J, mm_rf rv sp rr w nw)) 1 rfl ?_
                      cases e
                      exact mm_T.ret rfl ⟨rfl, rfl⟩
                    · rw [if_neg h1688] at e
                      by_cases h1689 : x0 = 14
                      · rw [if_pos h1689] at e
                        refine mm_T.step (f' := (93, [some (.int x0)], [])) (h' := (107, I, J, mm_rf rv sp rr w nw)) (by first | (rw [h1689]; rfl) | exact absurd h1689 (by decide)) ?_
                        refine mm_T.seg (f' := (94, [some (.int x0)], [(.int 0)])) (h' := (107, I, J, mm_rf rv sp rr w nw)) 1 rfl ?_
                        cases e
                        exact mm_T.ret rfl ⟨rfl, rfl⟩
                      · rw [if_neg h1689] at e
                        by_cases h1690 : x0 = 15
                        · rw [if_pos h1690] at e
                          refine mm_T.step (f' := (76, [some (.int x0)], [])) (h' := (107, I, J, mm_rf rv sp rr w nw)) (by first | (rw [h1690]; rfl) | exact absurd h1690 (by decide)) ?_
                          refine mm_T.seg (f' := (77, [some (.int x0)], [(.int (-1))])) (h' := (107, I, J, mm_rf rv sp rr w nw)) 1 rfl ?_
                          cases e
                          exact mm_T.ret rfl ⟨rfl, rfl⟩
                        · rw [if_neg h1690] at e
                          by_cases h1691 : x0 = 16
                          · rw [if_pos h1691] at e
                            refine mm_T.step (f' := (78, [some (.int x0)], [])) (h' := (107, I, J, mm_rf rv sp rr w nw)) (by first | (rw [h1691]; rfl) | exact absurd h1691 (by decide)) ?_
                            refine mm_T.seg (f' := (80, [some (.int x0)], [(.int (-2))])) (h' := (107, I, J, mm_rf rv sp rr w nw)) 1 rfl ?_
                            cases e
                            exact mm_T.ret rfl ⟨rfl, rfl⟩
                          · rw [if_neg h1691] at e
                            by_cases h1692 : x0 = 17
                            · rw [if_pos h1692] at e
                              refine mm_T.step (f' := (87, [some (.int x0)], [])) (h' := (107, I, J, mm_rf rv sp rr w nw)) (by first | (rw [h1692]; rfl) | exact absurd h1692 (by decide)) ?_
                              refine mm_T.seg (f' := (89, [some (.int x0)], [(.int (-5))])) (h' := (107, I, J, mm_rf rv sp rr w nw)) 1 rfl ?_
                              cases e
                              exact mm_T.ret rfl ⟨rfl, rfl⟩
                            · rw [if_neg h1692] at e
                              by_cases h1693 : x0 = 18
                              · rw [if_pos h1693] at e
                                refine mm_T.step (f' := (90, [some (.int x0)], [])) (h' := (107, I, J, mm_rf rv sp rr w nw)) (by first | (rw [h1693]; rfl) | exact absurd h1693 (by decide)) ?_
                                refine mm_T.seg (f' := (92, [some (.int x0)], [(.int (-6))])) (h' := (107, I, J, mm_rf rv sp rr w nw)) 1 rfl ?_
                                cases e
                                exact mm_T.ret rfl ⟨rfl, rfl⟩
                              · rw [if_neg h1693] at e
                                refine mm_T.tabs (lo := 4) (hi := 18) (y := ((93, [some (.int x0)], []), (107, I, J, mm_rf rv sp rr w nw))) rfl (mm_swo (4) (18) x0 [4, 5, 6, 7, 8, 9, 10, 11, 12, 13, 14, 15, 16, 17, 18] (by decide) (by intro z hz; simp only [List.mem_cons, List.not_mem_nil, or_false] at hz; rcases hz with rfl | rfl | rfl | rfl | rfl | rfl | rfl | rfl | rfl | rfl | rfl | rfl | rfl | rfl | rfl <;> first | assumption | decide)) ?_
                                refine mm_T.seg (f' := (94, [some (.int x0)], [(.int 0)])) (h' := (107, I, J, mm_rf rv sp rr w nw)) 1 rfl ?_
                                cases e
                                exact mm_T.ret rfl ⟨rfl, rfl⟩
set_option maxRecDepth 100000 in
set_option maxHeartbeats 4000000 in
theorem tX4_readInner (d n : Nat) (rec : Int32 → (Nat → Nat → Int32) → (Nat → Nat → Int64) → Nat → Option (Int32 × (Nat → Nat → Int32) × (Nat → Nat → Int64))) (hrec : ∀ (x1 : Int32) (I : Nat → Nat → Int32) (J : Nat → Nat → Int64) (rv sp rr w nw : Nat), (rr = 3 ∨ rr = 19) → ∀ (out : Int32 × (Nat → Nat → Int32) × (Nat → Nat → Int64)), rec x1 I J rr = some out → mm_T none d 56 (mm_ent 56 [(.ref 16), (.int x1)]) (107, I, J, mm_rf rv sp rr w nw) (fun v h => v = some (.int out.1) ∧ h = (107, out.2.1, out.2.2, mm_rf rv sp rr w nw))) (x1 : Int32) (I : Nat → Nat → Int32) (J : Nat → Nat → Int64) (rv sp rr w nw : Nat) (hrr : rr = 3 ∨ rr = 19) (out : Int32 × (Nat → Nat → Int32) × (Nat → Nat → Int64)) (e : fX4_readInner n rec x1 I J rr = some out) : mm_T none (d + 7) 61 (mm_ent 61 [(.ref 16), (.int x1)]) (107, I, J, mm_rf rv sp rr w nw) (fun v h => v = some (.int out.1) ∧ h = (107, out.2.1, out.2.2, mm_rf rv sp rr w nw)) := by
  rcases hrr with rfl | rfl
  · unfold fX4_readInner at e
    refine mm_T.seg (f' := (1, [some (.ref 16), some (.int x1)], [(.ref 16)])) (h' := (107, I, J, mm_rf rv sp 3 w nw)) 1 rfl ?_
    obtain ⟨o1704, eo1704, e⟩ := mm_bind e
    refine mm_T.call (t := 34) (as := [(.ref 16)]) (f' := (4, [some (.ref 16), some (.int x1)], [])) rfl (tX4_advance (d + 2) n I J rv sp 3 w nw o1704 eo1704) (fun v h hq => ?_)
    obtain ⟨rfl, rfl⟩ := hq
    refine mm_T.seg (f' := (8, [some (.ref 16), some (.int x1)], [(.int (x1 + 1)), (.ref 16)])) (h' := (107, o1704.1, o1704.2, mm_rf rv sp 3 w nw)) 4 rfl ?_
    obtain ⟨o1705, eo1705, e⟩ := mm_bind e
    refine mm_T.call (t := 54) (as := [(.ref 16), (.int (x1 + 1))]) (f' := (11, [some (.ref 16), some (.int x1)], [])) rfl (mm_T.deep (tX4_readAny d n rec hrec (x1 + 1) o1704.1 o1704.2 rv sp 3 w nw (Or.inl rfl) o1705 eo1705) (by omega)) (fun v h hq => ?_)
    obtain ⟨rfl, rfl⟩ := hq
    refine mm_T.br (c := o1705.1 = 0) (a := ((14, [some (.ref 16), some (.int x1)], []), (107, o1705.2.1, o1705.2.2, mm_rf rv sp 3 w nw))) (b := ((16, [some (.ref 16), some (.int x1)], []), (107, o1705.2.1, o1705.2.2, mm_rf rv sp 3 w nw))) rfl (fun h1706 => ?_) (fun h1706 => ?_)
    · rw [if_pos h1706] at e
      refine mm_T.seg (f' := (15, [some (.ref 16), some (.int x1)], [(.int 0)])) (h' := (107, o1705.2.1, o1705.2.2, mm_rf rv sp 3 w nw)) 1 rfl ?_
      cases e
      exact mm_T.ret rfl ⟨rfl, rfl⟩
    · rw [if_neg h1706] at e
      refine mm_T.seg (f' := (19, [some (.ref 16), some (.int x1)], [(.int 41), (.ref 16)])) (h' := (107, o1705.2.1, o1705.2.2, mm_rf rv sp 3 w nw)) 2 rfl ?_
      obtain ⟨o1707, eo1707, e⟩ := mm_bind e
      refine mm_T.call (t := 39) (as := [(.ref 16), (.int 41)]) (f' := (22, [some (.ref 16), some (.int x1)], [])) rfl (tX4_isSign (d + 5) 41 o1705.2.1 o1705.2.2 rv sp 3 w nw o1707 eo1707) (fun v h hq => ?_)
      obtain ⟨rfl, rfl⟩ := hq
      refine mm_T.br (c := o1707 = 0) (a := ((25, [some (.ref 16), some (.int x1)], []), (107, o1705.2.1, o1705.2.2, mm_rf rv sp 3 w nw))) (b := ((31, [some (.ref 16), some (.int x1)], []), (107, o1705.2.1, o1705.2.2, mm_rf rv sp 3 w nw))) rfl (fun h1708 => ?_) (fun h1708 => ?_)
      · rw [if_pos h1708] at e
        refine mm_T.seg (f' := (27, [some (.ref 16), some (.int x1)], [(.int 2), (.ref 16)])) (h' := (107, o1705.2.1, o1705.2.2, mm_rf rv sp 3 w nw)) 2 rfl ?_
        obtain ⟨g241, hg241⟩ : ∃ z, fX4_refuse 2 o1705.2.1 = z := ⟨_, rfl⟩
        try rw [hg241] at e
        refine mm_T.call (t := 30) (as := [(.ref 16), (.int 2)]) (f' := (30, [some (.ref 16), some (.int x1)], [])) rfl (tX4_refuse (d + 6) 2 o1705.2.1 o1705.2.2 rv sp 3 w nw g241 hg241) (fun v h hq => ?_)
        obtain ⟨rfl, rfl⟩ := hq
        by_cases h1709 : g241.1 = 0 ∨ g241.1 = 1
        case neg => rw [if_neg h1709] at e; cases e
        rw [if_pos h1709] at e
        cases e
        first | exact mm_T.retZ (v := some (.int g241.1)) rfl h1709 ⟨rfl, rfl⟩ | exact mm_T.retZ (v := some (.int out)) rfl h1709 ⟨rfl, rfl⟩
      · rw [if_neg h1708] at e
        refine mm_T.seg (f' := (32, [some (.ref 16), some (.int x1)], [(.ref 16)])) (h' := (107, o1705.2.1, o1705.2.2, mm_rf rv sp 3 w nw)) 1 rfl ?_
        obtain ⟨o1710, eo1710, e⟩ := mm_bind e
        refine mm_T.call (t := 34) (as := [(.ref 16)]) (f' := (35, [some (.ref 16), some (.int x1)], [])) rfl (tX4_advance (d + 2) n o1705.2.1 o1705.2.2 rv sp 3 w nw o1710 eo1710) (fun v h hq => ?_)
        obtain ⟨rfl, rfl⟩ := hq
        refine mm_T.seg (f' := (36, [some (.ref 16), some (.int x1)], [(.int 1)])) (h' := (107, o1710.1, o1710.2, mm_rf rv sp 3 w nw)) 1 rfl ?_
        cases e
        exact mm_T.ret rfl ⟨rfl, rfl⟩
  · unfold fX4_readInner at e
    refine mm_T.seg (f' := (1, [some (.ref 16), some (.int x1)], [(.ref 16)])) (h' := (107, I, J, mm_rf rv sp 19 w nw)) 1 rfl ?_
    obtain ⟨o1704, eo1704, e⟩ := mm_bind e
    refine mm_T.call (t := 34) (as := [(.ref 16)]) (f' := (4, [some (.ref 16), some (.int x1)], [])) rfl (tX4_advance (d + 2) n I J rv sp 19 w nw o1704 eo1704) (fun v h hq => ?_)
    obtain ⟨rfl, rfl⟩ := hq
    refine mm_T.seg (f' := (8, [some (.ref 16), some (.int x1)], [(.int (x1 + 1)), (.ref 16)])) (h' := (107, o1704.1, o1704.2, mm_rf rv sp 19 w nw)) 4 rfl ?_
    obtain ⟨o1705, eo1705, e⟩ := mm_bind e
    refine mm_T.call (t := 54) (as := [(.ref 16), (.int (x1 + 1))]) (f' := (11, [some (.ref 16), some (.int x1)], [])) rfl (mm_T.deep (tX4_readAny d n rec hrec (x1 + 1) o1704.1 o1704.2 rv sp 19 w nw (Or.inr rfl) o1705 eo1705) (by omega)) (fun v h hq => ?_)
    obtain ⟨rfl, rfl⟩ := hq
    refine mm_T.br (c := o1705.1 = 0) (a := ((14, [some (.ref 16), some (.int x1)], []), (107, o1705.2.1, o1705.2.2, mm_rf rv sp 19 w nw))) (b := ((16, [some (.ref 16), some (.int x1)], []), (107, o1705.2.1, o1705.2.2, mm_rf rv sp 19 w nw))) rfl (fun h1706 => ?_) (fun h1706 => ?_)
    · rw [if_pos h1706] at e
      refine mm_T.seg (f' := (15, [some (.ref 16), some (.int x1)], [(.int 0)])) (h' := (107, o1705.2.1, o1705.2.2, mm_rf rv sp 19 w nw)) 1 rfl ?_
      cases e
      exact mm_T.ret rfl ⟨rfl, rfl⟩
    · rw [if_neg h1706] at e
      refine mm_T.seg (f' := (19, [some (.ref 16), some (.int x1)], [(.int 41), (.ref 16)])) (h' := (107, o1705.2.1, o1705.2.2, mm_rf rv sp 19 w nw)) 2 rfl ?_
      obtain ⟨o1707, eo1707, e⟩ := mm_bind e
      refine mm_T.call (t := 39) (as := [(.ref 16), (.int 41)]) (f' := (22, [some (.ref 16), some (.int x1)], [])) rfl (tX4_isSign (d + 5) 41 o1705.2.1 o1705.2.2 rv sp 19 w nw o1707 eo1707) (fun v h hq => ?_)
      obtain ⟨rfl, rfl⟩ := hq
      refine mm_T.br (c := o1707 = 0) (a := ((25, [some (.ref 16), some (.int x1)], []), (107, o1705.2.1, o1705.2.2, mm_rf rv sp 19 w nw))) (b := ((31, [some (.ref 16), some (.int x1)], []), (107, o1705.2.1, o1705.2.2, mm_rf rv sp 19 w nw))) rfl (fun h1708 => ?_) (fun h1708 => ?_)
      · rw [if_pos h1708] at e
        refine mm_T.seg (f' := (27, [some (.ref 16), some (.int x1)], [(.int 2), (.ref 16)])) (h' := (107, o1705.2.1, o1705.2.2, mm_rf rv sp 19 w nw)) 2 rfl ?_
        obtain ⟨g241, hg241⟩ : ∃ z, fX4_refuse 2 o1705.2.1 = z := ⟨_, rfl⟩
        try rw [hg241] at e
        refine mm_T.call (t := 30) (as := [(.ref 16), (.int 2)]) (f' := (30, [some (.ref 16), some (.int x1)], [])) rfl (tX4_refuse (d + 6) 2 o1705.2.1 o1705.2.2 rv sp 19 w nw g241 hg241) (fun v h hq => ?_)
        obtain ⟨rfl, rfl⟩ := hq
        by_cases h1709 : g241.1 = 0 ∨ g241.1 = 1
        case neg => rw [if_neg h1709] at e; cases e
        rw [if_pos h1709] at e
        cases e
        first | exact mm_T.retZ (v := some (.int g241.1)) rfl h1709 ⟨rfl, rfl⟩ | exact mm_T.retZ (v := some (.int out)) rfl h1709 ⟨rfl, rfl⟩
      · rw [if_neg h1708] at e
        refine mm_T.seg (f' := (32, [some (.ref 16), some (.int x1)], [(.ref 16)])) (h' := (107, o1705.2.1, o1705.2.2, mm_rf rv sp 19 w nw)) 1 rfl ?_
        obtain ⟨o1710, eo1710, e⟩ := mm_bind e
        refine mm_T.call (t := 34) (as := [(.ref 16)]) (f' := (35, [some (.ref 16), some (.int x1)], [])) rfl (tX4_advance (d + 2) n o1705.2.1 o1705.2.2 rv sp 19 w nw o1710 eo1710) (fun v h hq => ?_)
        obtain ⟨rfl, rfl⟩ := hq
        refine mm_T.seg (f' := (36, [some (.ref 16), some (.int x1)], [(.int 1)])) (h' := (107, o1710.1, o1710.2, mm_rf rv sp 19 w nw)) 1 rfl ?_
        cases e
        exact mm_T.ret rfl ⟨rfl, rfl⟩
set_option maxRecDepth 100000 in
set_option maxHeartbeats 4000000 in
theorem tbX4_readUnit_J80 (d n : Nat) (rec : Int32 → (Nat → Nat → Int32) → (Nat → Nat → Int64) → Nat → Option (Int32 × (Nat → Nat → Int32) × (Nat → Nat → Int64))) (hrec : ∀ (x1 : Int32) (I : Nat → Nat → Int32) (J : Nat → Nat → Int64) (rv sp rr w nw : Nat), (rr = 3 ∨ rr = 19) → ∀ (out : Int32 × (Nat → Nat → Int32) × (Nat → Nat → Int64)), rec x1 I J rr = some out → mm_T none d 56 (mm_ent 56 [(.ref 16), (.int x1)]) (107, I, J, mm_rf rv sp rr w nw) (fun v h => v = some (.int out.1) ∧ h = (107, out.2.1, out.2.2, mm_rf rv sp rr w nw))) (y1 : Int32) (y2 : Int32) (y3 : Int32) (I : Nat → Nat → Int32) (J : Nat → Nat → Int64) (rv sp rr w nw : Nat) (hrr : rr = 3 ∨ rr = 19) (out : Int32 × (Nat → Nat → Int32) × (Nat → Nat → Int64)) (e : fX4_readUnit_J80 n rec y1 y2 y3 I J rr = some out) : mm_T none (d + 8) 60 (80, [some (.ref 16), some (.int y1), some (.int y2), some (.int y3)], []) (107, I, J, mm_rf rv sp rr w nw) (fun v h => v = some (.int out.1) ∧ h = (107, out.2.1, out.2.2, mm_rf rv sp rr w nw)) := by
  rcases hrr with rfl | rfl
  · unfold fX4_readUnit_J80 at e
    refine mm_T.seg (f' := (84, [some (.ref 16), some (.int y1), some (.int y2), some (.int y3)], [(.ref 3)])) (h' := (107, I, J, mm_rf rv sp 3 w nw)) 2 rfl ?_
    refine mm_T.seg (f' := (97, [some (.ref 16), some (.int y1), some (.int y2), some (.int y3)], [(.int y2)])) (h' := (107, (mm_up I (3 + 1) 4 ((I (3 + 1) 4) + 1)), J, mm_rf rv sp 3 w nw)) 7 rfl ?_
    refine mm_T.br (c := y2 = 0) (a := ((106, [some (.ref 16), some (.int y1), some (.int y2), some (.int y3)], []), (107, (mm_up I (3 + 1) 4 ((I (3 + 1) 4) + 1)), J, mm_rf rv sp 3 w nw))) (b := ((100, [some (.ref 16), some (.int y1), some (.int y2), some (.int y3)], []), (107, (mm_up I (3 + 1) 4 ((I (3 + 1) 4) + 1)), J, mm_rf rv sp 3 w nw))) rfl (fun h1698 => ?_) (fun h1698 => ?_)
    · rw [if_pos h1698] at e
      refine mm_T.seg (f' := (110, [some (.ref 16), some (.int y1), some (.int y2), some (.int y3)], [(.ref 3)])) (h' := (107, (mm_up I (3 + 1) 4 ((I (3 + 1) 4) + 1)), J, mm_rf rv sp 3 w nw)) 2 rfl ?_
      refine mm_T.seg (f' := (114, [some (.ref 16), some (.int y1), some (.int y2), some (.int y3)], [(.int y3), (.ref (3 + 1))])) (h' := (107, (mm_up I (3 + 1) 4 ((I (3 + 1) 4) + 1)), J, mm_rf rv sp 3 w nw)) 2 rfl ?_
      refine mm_T.br (c := y3 = 0) (a := ((117, [some (.ref 16), some (.int y1), some (.int y2), some (.int y3)], [(.ref (3 + 1))]), (107, (mm_up I (3 + 1) 4 ((I (3 + 1) 4) + 1)), J, mm_rf rv sp 3 w nw))) (b := ((124, [some (.ref 16), some (.int y1), some (.int y2), some (.int y3)], [(.ref (3 + 1))]), (107, (mm_up I (3 + 1) 4 ((I (3 + 1) 4) + 1)), J, mm_rf rv sp 3 w nw))) rfl (fun h1699 => ?_) (fun h1699 => ?_)
      · rw [if_pos h1699] at e
        refine mm_T.seg (f' := (125, [some (.ref 16), some (.int y1), some (.int y2), some (.int y3)], [(.int (I 16 6)), (.ref (3 + 1))])) (h' := (107, (mm_up I (3 + 1) 4 ((I (3 + 1) 4) + 1)), J, mm_rf rv sp 3 w nw)) 3 rfl ?_
        obtain ⟨o1700, eo1700, e⟩ := mm_bind e
        refine mm_T.call (t := 2) (as := [(.ref (3 + 1)), (.int (I 16 6))]) (f' := (128, [some (.ref 16), some (.int y1), some (.int y2), some (.int y3)], [])) rfl (tX0_add (d + 7) (I 16 6) (3 + 1) (mm_up I (3 + 1) 4 ((I (3 + 1) 4) + 1)) J rv sp 3 w nw (Or.inl rfl) o1700 eo1700) (fun v h hq => ?_)
        obtain ⟨rfl, rfl⟩ := hq
        refine mm_T.seg (f' := (129, [some (.ref 16), some (.int y1), some (.int y2), some (.int y3)], [(.ref 16)])) (h' := (107, o1700, J, mm_rf rv sp 3 w nw)) 1 rfl ?_
        obtain ⟨o1701, eo1701, e⟩ := mm_bind e
        refine mm_T.call (t := 34) (as := [(.ref 16)]) (f' := (132, [some (.ref 16), some (.int y1), some (.int y2), some (.int y3)], [])) rfl (tX4_advance (d + 3) n o1700 J rv sp 3 w nw o1701 eo1701) (fun v h hq => ?_)
        obtain ⟨rfl, rfl⟩ := hq
        refine mm_T.seg (f' := (133, [some (.ref 16), some (.int y1), some (.int y2), some (.int y3)], [(.int 1)])) (h' := (107, o1701.1, o1701.2, mm_rf rv sp 3 w nw)) 1 rfl ?_
        cases e
        exact mm_T.ret rfl ⟨rfl, rfl⟩
      · rw [if_neg h1699] at e
        refine mm_T.seg (f' := (125, [some (.ref 16), some (.int y1), some (.int y2), some (.int y3)], [(.int y3), (.ref (3 + 1))])) (h' := (107, (mm_up I (3 + 1) 4 ((I (3 + 1) 4) + 1)), J, mm_rf rv sp 3 w nw)) 1 rfl ?_
        obtain ⟨o1702, eo1702, e⟩ := mm_bind e
        refine mm_T.call (t := 2) (as := [(.ref (3 + 1)), (.int y3)]) (f' := (128, [some (.ref 16), some (.int y1), some (.int y2), some (.int y3)], [])) rfl (tX0_add (d + 7) y3 (3 + 1) (mm_up I (3 + 1) 4 ((I (3 + 1) 4) + 1)) J rv sp 3 w nw (Or.inl rfl) o1702 eo1702) (fun v h hq => ?_)
        obtain ⟨rfl, rfl⟩ := hq
        refine mm_T.seg (f' := (129, [some (.ref 16), some (.int y1), some (.int y2), some (.int y3)], [(.ref 16)])) (h' := (107, o1702, J, mm_rf rv sp 3 w nw)) 1 rfl ?_
        obtain ⟨o1703, eo1703, e⟩ := mm_bind e
        refine mm_T.call (t := 34) (as := [(.ref 16)]) (f' := (132, [some (.ref 16), some (.int y1), some (.int y2), some (.int y3)], [])) rfl (tX4_advance (d + 3) n o1702 J rv sp 3 w nw o1703 eo1703) (fun v h hq => ?_)
        obtain ⟨rfl, rfl⟩ := hq
        refine mm_T.seg (f' := (133, [some (.ref 16), some (.int y1), some (.int y2), some (.int y3)], [(.int 1)])) (h' := (107, o1703.1, o1703.2, mm_rf rv sp 3 w nw)) 1 rfl ?_
        cases e
        exact mm_T.ret rfl ⟨rfl, rfl⟩
    · rw [if_neg h1698] at e
      refine mm_T.seg (f' := (102, [some (.ref 16), some (.int y1), some (.int y2), some (.int y3)], [(.int y1), (.ref 16)])) (h' := (107, (mm_up I (3 + 1) 4 ((I (3 + 1) 4) + 1)), J, mm_rf rv sp 3 w nw)) 2 rfl ?_
      obtain ⟨o1711, eo1711, e⟩ := mm_bind e
      refine mm_T.call (t := 61) (as := [(.ref 16), (.int y1)]) (f' := (105, [some (.ref 16), some (.int y1), some (.int y2), some (.int y3)], [])) rfl (mm_T.deep (tX4_readInner d n rec hrec y1 (mm_up I (3 + 1) 4 ((I (3 + 1) 4) + 1)) J rv sp 3 w nw (Or.inl rfl) o1711 eo1711) (by omega)) (fun v h hq => ?_)
      obtain ⟨rfl, rfl⟩ := hq
      by_cases h1712 : o1711.1 = 0 ∨ o1711.1 = 1
      case neg => rw [if_neg h1712] at e; cases e
      rw [if_pos h1712] at e
      cases e
      first | exact mm_T.retZ (v := some (.int o1711.1)) rfl h1712 ⟨rfl, rfl⟩ | exact mm_T.retZ (v := some (.int out)) rfl h1712 ⟨rfl, rfl⟩
  · unfold fX4_readUnit_J80 at e
    refine mm_T.seg (f' := (84, [some (.ref 16), some (.int y1), some (.int y2), some (.int y3)], [(.ref 19)])) (h' := (107, I, J, mm_rf rv sp 19 w nw)) 2 rfl ?_
    refine mm_T.seg (f' := (97, [some (.ref 16), some (.int y1), some (.int y2), some (.int y3)], [(.int y2)])) (h' := (107, (mm_up I (19 + 1) 4 ((I (19 + 1) 4) + 1)), J, mm_rf rv sp 19 w nw)) 7 rfl ?_
    refine mm_T.br (c := y2 = 0) (a := ((106, [some (.ref 16), some (.int y1), some (.int y2), some (.int y3)], []), (107, (mm_up I (19 + 1) 4 ((I (19 + 1) 4) + 1)), J, mm_rf rv sp 19 w nw))) (b := ((100, [some (.ref 16), some (.int y1), some (.int y2), some (.int y3)], []), (107, (mm_up I (19 + 1) 4 ((I (19 + 1) 4) + 1)), J, mm_rf rv sp 19 w nw))) rfl (fun h1698 => ?_) (fun h1698 => ?_)
    · rw [if_pos h1698] at e
      refine mm_T.seg (f' := (110, [some (.ref 16), some (.int y1), some (.int y2), some (.int y3)], [(.ref 19)])) (h' := (107, (mm_up I (19 + 1) 4 ((I (19 + 1) 4) + 1)), J, mm_rf rv sp 19 w nw)) 2 rfl ?_
      refine mm_T.seg (f' := (114, [some (.ref 16), some (.int y1), some (.int y2), some (.int y3)], [(.int y3), (.ref (19 + 1))])) (h' := (107, (mm_up I (19 + 1) 4 ((I (19 + 1) 4) + 1)), J, mm_rf rv sp 19 w nw)) 2 rfl ?_
      refine mm_T.br (c := y3 = 0) (a := ((117, [some (.ref 16), some (.int y1), some (.int y2), some (.int y3)], [(.ref (19 + 1))]), (107, (mm_up I (19 + 1) 4 ((I (19 + 1) 4) + 1)), J, mm_rf rv sp 19 w nw))) (b := ((124, [some (.ref 16), some (.int y1), some (.int y2), some (.int y3)], [(.ref (19 + 1))]), (107, (mm_up I (19 + 1) 4 ((I (19 + 1) 4) + 1)), J, mm_rf rv sp 19 w nw))) rfl (fun h1699 => ?_) (fun h1699 => ?_)
      · rw [if_pos h1699] at e
        refine mm_T.seg (f' := (125, [some (.ref 16), some (.int y1), some (.int y2), some (.int y3)], [(.int (I 16 6)), (.ref (19 + 1))])) (h' := (107, (mm_up I (19 + 1) 4 ((I (19 + 1) 4) + 1)), J, mm_rf rv sp 19 w nw)) 3 rfl ?_
        obtain ⟨o1700, eo1700, e⟩ := mm_bind e
        refine mm_T.call (t := 2) (as := [(.ref (19 + 1)), (.int (I 16 6))]) (f' := (128, [some (.ref 16), some (.int y1), some (.int y2), some (.int y3)], [])) rfl (tX0_add (d + 7) (I 16 6) (19 + 1) (mm_up I (19 + 1) 4 ((I (19 + 1) 4) + 1)) J rv sp 19 w nw (Or.inr rfl) o1700 eo1700) (fun v h hq => ?_)
        obtain ⟨rfl, rfl⟩ := hq
        refine mm_T.seg (f' := (129, [some (.ref 16), some (.int y1), some (.int y2), some (.int y3)], [(.ref 16)])) (h' := (107, o1700, J, mm_rf rv sp 19 w nw)) 1 rfl ?_
        obtain ⟨o1701, eo1701, e⟩ := mm_bind e
        refine mm_T.call (t := 34) (as := [(.ref 16)]) (f' := (132, [some (.ref 16), some (.int y1), some (.int y2), some (.int y3)], [])) rfl (tX4_advance (d + 3) n o1700 J rv sp 19 w nw o1701 eo1701) (fun v h hq => ?_)
        obtain ⟨rfl, rfl⟩ := hq
        refine mm_T.seg (f' := (133, [some (.ref 16), some (.int y1), some (.int y2), some (.int y3)], [(.int 1)])) (h' := (107, o1701.1, o1701.2, mm_rf rv sp 19 w nw)) 1 rfl ?_
        cases e
        exact mm_T.ret rfl ⟨rfl, rfl⟩
      · rw [if_neg h1699] at e
        refine mm_T.seg (f' := (125, [some (.ref 16), some (.int y1), some (.int y2), some (.int y3)], [(.int y3), (.ref (19 + 1))])) (h' := (107, (mm_up I (19 + 1) 4 ((I (19 + 1) 4) + 1)), J, mm_rf rv sp 19 w nw)) 1 rfl ?_
        obtain ⟨o1702, eo1702, e⟩ := mm_bind e
        refine mm_T.call (t := 2) (as := [(.ref (19 + 1)), (.int y3)]) (f' := (128, [some (.ref 16), some (.int y1), some (.int y2), some (.int y3)], [])) rfl (tX0_add (d + 7) y3 (19 + 1) (mm_up I (19 + 1) 4 ((I (19 + 1) 4) + 1)) J rv sp 19 w nw (Or.inr rfl) o1702 eo1702) (fun v h hq => ?_)
        obtain ⟨rfl, rfl⟩ := hq
        refine mm_T.seg (f' := (129, [some (.ref 16), some (.int y1), some (.int y2), some (.int y3)], [(.ref 16)])) (h' := (107, o1702, J, mm_rf rv sp 19 w nw)) 1 rfl ?_
        obtain ⟨o1703, eo1703, e⟩ := mm_bind e
        refine mm_T.call (t := 34) (as := [(.ref 16)]) (f' := (132, [some (.ref 16), some (.int y1), some (.int y2), some (.int y3)], [])) rfl (tX4_advance (d + 3) n o1702 J rv sp 19 w nw o1703 eo1703) (fun v h hq => ?_)
        obtain ⟨rfl, rfl⟩ := hq
        refine mm_T.seg (f' := (133, [some (.ref 16), some (.int y1), some (.int y2), some (.int y3)], [(.int 1)])) (h' := (107, o1703.1, o1703.2, mm_rf rv sp 19 w nw)) 1 rfl ?_
        cases e
        exact mm_T.ret rfl ⟨rfl, rfl⟩
    · rw [if_neg h1698] at e
      refine mm_T.seg (f' := (102, [some (.ref 16), some (.int y1), some (.int y2), some (.int y3)], [(.int y1), (.ref 16)])) (h' := (107, (mm_up I (19 + 1) 4 ((I (19 + 1) 4) + 1)), J, mm_rf rv sp 19 w nw)) 2 rfl ?_
      obtain ⟨o1711, eo1711, e⟩ := mm_bind e
      refine mm_T.call (t := 61) (as := [(.ref 16), (.int y1)]) (f' := (105, [some (.ref 16), some (.int y1), some (.int y2), some (.int y3)], [])) rfl (mm_T.deep (tX4_readInner d n rec hrec y1 (mm_up I (19 + 1) 4 ((I (19 + 1) 4) + 1)) J rv sp 19 w nw (Or.inr rfl) o1711 eo1711) (by omega)) (fun v h hq => ?_)
      obtain ⟨rfl, rfl⟩ := hq
      by_cases h1712 : o1711.1 = 0 ∨ o1711.1 = 1
      case neg => rw [if_neg h1712] at e; cases e
      rw [if_pos h1712] at e
      cases e
      first | exact mm_T.retZ (v := some (.int o1711.1)) rfl h1712 ⟨rfl, rfl⟩ | exact mm_T.retZ (v := some (.int out)) rfl h1712 ⟨rfl, rfl⟩
set_option maxRecDepth 100000 in
set_option maxHeartbeats 4000000 in
theorem tbX4_readUnit_J74 (d : Nat) (rec : Int32 → (Nat → Nat → Int32) → (Nat → Nat → Int64) → Nat → Option (Int32 × (Nat → Nat → Int32) × (Nat → Nat → Int64))) (hrec : ∀ (x1 : Int32) (I : Nat → Nat → Int32) (J : Nat → Nat → Int64) (rv sp rr w nw : Nat), (rr = 3 ∨ rr = 19) → ∀ (out : Int32 × (Nat → Nat → Int32) × (Nat → Nat → Int64)), rec x1 I J rr = some out → mm_T none d 56 (mm_ent 56 [(.ref 16), (.int x1)]) (107, I, J, mm_rf rv sp rr w nw) (fun v h => v = some (.int out.1) ∧ h = (107, out.2.1, out.2.2, mm_rf rv sp rr w nw))) (I : Nat → Nat → Int32) (J : Nat → Nat → Int64) (rv sp rr w nw : Nat) (out : Int32 × (Nat → Nat → Int32) × (Nat → Nat → Int64)) (e : fX4_readUnit_J74 rec I J = some out) : mm_T none (d + 8) 60 (74, [some (.ref 16), none, none, none], []) (107, I, J, mm_rf rv sp rr w nw) (fun v h => v = some (.int out.1) ∧ h = (107, out.2.1, out.2.2, mm_rf rv sp rr w nw)) := by
  unfold fX4_readUnit_J74 at e
  refine mm_T.seg (f' := (76, [some (.ref 16), none, none, none], [(.int 2), (.ref 16)])) (h' := (107, I, J, mm_rf rv sp rr w nw)) 2 rfl ?_
  obtain ⟨g242, hg242⟩ : ∃ z, fX4_refuse 2 I = z := ⟨_, rfl⟩
  try rw [hg242] at e
  refine mm_T.call (t := 30) (as := [(.ref 16), (.int 2)]) (f' := (79, [some (.ref 16), none, none, none], [])) rfl (tX4_refuse (d + 7) 2 I J rv sp rr w nw g242 hg242) (fun v h hq => ?_)
  obtain ⟨rfl, rfl⟩ := hq
  by_cases h1714 : g242.1 = 0 ∨ g242.1 = 1
  case neg => rw [if_neg h1714] at e; cases e
  rw [if_pos h1714] at e
  cases e
  first | exact mm_T.retZ (v := some (.int g242.1)) rfl h1714 ⟨rfl, rfl⟩ | exact mm_T.retZ (v := some (.int out)) rfl h1714 ⟨rfl, rfl⟩
set_option maxRecDepth 100000 in
set_option maxHeartbeats 4000000 in
theorem tbX4_readUnit_J49 (d n : Nat) (rec : Int32 → (Nat → Nat → Int32) → (Nat → Nat → Int64) → Nat → Option (Int32 × (Nat → Nat → Int32) × (Nat → Nat → Int64))) (hrec : ∀ (x1 : Int32) (I : Nat → Nat → Int32) (J : Nat → Nat → Int64) (rv sp rr w nw : Nat), (rr = 3 ∨ rr = 19) → ∀ (out : Int32 × (Nat → Nat → Int32) × (Nat → Nat → Int64)), rec x1 I J rr = some out → mm_T none d 56 (mm_ent 56 [(.ref 16), (.int x1)]) (107, I, J, mm_rf rv sp rr w nw) (fun v h => v = some (.int out.1) ∧ h = (107, out.2.1, out.2.2, mm_rf rv sp rr w nw))) (y1 : Int32) (y2 : Int32) (y3 : Int32) (I : Nat → Nat → Int32) (J : Nat → Nat → Int64) (rv sp rr w nw : Nat) (hrr : rr = 3 ∨ rr = 19) (out : Int32 × (Nat → Nat → Int32) × (Nat → Nat → Int64)) (e : fX4_readUnit_J49 n rec y1 y2 y3 I J rr = some out) : mm_T none (d + 8) 60 (49, [some (.ref 16), some (.int y1), some (.int y2), some (.int y3)], []) (107, I, J, mm_rf rv sp rr w nw) (fun v h => v = some (.int out.1) ∧ h = (107, out.2.1, out.2.2, mm_rf rv sp rr w nw)) := by
  rcases hrr with rfl | rfl
  · unfold fX4_readUnit_J49 at e
    refine mm_T.seg (f' := (53, [some (.ref 16), some (.int y1), some (.int y2), some (.int y3)], [(.ref 3)])) (h' := (107, I, J, mm_rf rv sp 3 w nw)) 2 rfl ?_
    refine mm_T.seg (f' := (61, [some (.ref 16), some (.int y1), some (.int y2), some (.int y3)], [(.int 30), (.int (I (3 + 1) 4))])) (h' := (107, I, J, mm_rf rv sp 3 w nw)) 3 rfl ?_
    refine mm_T.br (c := (I (3 + 1) 4) < 30) (a := ((64, [some (.ref 16), some (.int y1), some (.int y2), some (.int y3)], []), (107, I, J, mm_rf rv sp 3 w nw))) (b := ((74, [some (.ref 16), some (.int y1), some (.int y2), some (.int y3)], []), (107, I, J, mm_rf rv sp 3 w nw))) rfl (fun h1696 => ?_) (fun h1696 => ?_)
    · rw [if_pos h1696] at e
      refine mm_T.seg (f' := (65, [some (.ref 16), some (.int y1), some (.int y2), some (.int y3)], [(.int y2)])) (h' := (107, I, J, mm_rf rv sp 3 w nw)) 1 rfl ?_
      refine mm_T.br (c := y2 = 0) (a := ((80, [some (.ref 16), some (.int y1), some (.int y2), some (.int y3)], []), (107, I, J, mm_rf rv sp 3 w nw))) (b := ((68, [some (.ref 16), some (.int y1), some (.int y2), some (.int y3)], []), (107, I, J, mm_rf rv sp 3 w nw))) rfl (fun h1697 => ?_) (fun h1697 => ?_)
      · rw [if_pos h1697] at e
        refine mm_T.mask [true, true, true, true] ?_
        exact tbX4_readUnit_J80 d n rec hrec y1 y2 y3 I J rv sp 3 w nw (Or.inl rfl) out e
      · rw [if_neg h1697] at e
        refine mm_T.seg (f' := (71, [some (.ref 16), some (.int y1), some (.int y2), some (.int y3)], [(.int 7), (.int y1)])) (h' := (107, I, J, mm_rf rv sp 3 w nw)) 2 rfl ?_
        refine mm_T.br (c := y1 < 7) (a := ((80, [some (.ref 16), some (.int y1), some (.int y2), some (.int y3)], []), (107, I, J, mm_rf rv sp 3 w nw))) (b := ((74, [some (.ref 16), some (.int y1), some (.int y2), some (.int y3)], []), (107, I, J, mm_rf rv sp 3 w nw))) rfl (fun h1713 => ?_) (fun h1713 => ?_)
        · rw [if_pos h1713] at e
          refine mm_T.mask [true, true, true, true] ?_
          exact tbX4_readUnit_J80 d n rec hrec y1 y2 y3 I J rv sp 3 w nw (Or.inl rfl) out e
        · rw [if_neg h1713] at e
          refine mm_T.mask [true, false, false, false] ?_
          exact tbX4_readUnit_J74 d rec hrec I J rv sp 3 w nw out e
    · rw [if_neg h1696] at e
      refine mm_T.mask [true, false, false, false] ?_
      exact tbX4_readUnit_J74 d rec hrec I J rv sp 3 w nw out e
  · unfold fX4_readUnit_J49 at e
    refine mm_T.seg (f' := (53, [some (.ref 16), some (.int y1), some (.int y2), some (.int y3)], [(.ref 19)])) (h' := (107, I, J, mm_rf rv sp 19 w nw)) 2 rfl ?_
    refine mm_T.seg (f' := (61, [some (.ref 16), some (.int y1), some (.int y2), some (.int y3)], [(.int 30), (.int (I (19 + 1) 4))])) (h' := (107, I, J, mm_rf rv sp 19 w nw)) 3 rfl ?_
    refine mm_T.br (c := (I (19 + 1) 4) < 30) (a := ((64, [some (.ref 16), some (.int y1), some (.int y2), some (.int y3)], []), (107, I, J, mm_rf rv sp 19 w nw))) (b := ((74, [some (.ref 16), some (.int y1), some (.int y2), some (.int y3)], []), (107, I, J, mm_rf rv sp 19 w nw))) rfl (fun h1696 => ?_) (fun h1696 => ?_)
    · rw [if_pos h1696] at e
      refine mm_T.seg (f' := (65, [some (.ref 16), some (.int y1), some (.int y2), some (.int y3)], [(.int y2)])) (h' := (107, I, J, mm_rf rv sp 19 w nw)) 1 rfl ?_
      refine mm_T.br (c := y2 = 0) (a := ((80, [some (.ref 16), some (.int y1), some (.int y2), some (.int y3)], []), (107, I, J, mm_rf rv sp 19 w nw))) (b := ((68, [some (.ref 16), some (.int y1), some (.int y2), some (.int y3)], []), (107, I, J, mm_rf rv sp 19 w nw))) rfl (fun h1697 => ?_) (fun h1697 => ?_)
      · rw [if_pos h1697] at e
        refine mm_T.mask [true, true, true, true] ?_
        exact tbX4_readUnit_J80 d n rec hrec y1 y2 y3 I J rv sp 19 w nw (Or.inr rfl) out e
      · rw [if_neg h1697] at e
        refine mm_T.seg (f' := (71, [some (.ref 16), some (.int y1), some (.int y2), some (.int y3)], [(.int 7), (.int y1)])) (h' := (107, I, J, mm_rf rv sp 19 w nw)) 2 rfl ?_
        refine mm_T.br (c := y1 < 7) (a := ((80, [some (.ref 16), some (.int y1), some (.int y2), some (.int y3)], []), (107, I, J, mm_rf rv sp 19 w nw))) (b := ((74, [some (.ref 16), some (.int y1), some (.int y2), some (.int y3)], []), (107, I, J, mm_rf rv sp 19 w nw))) rfl (fun h1713 => ?_) (fun h1713 => ?_)
        · rw [if_pos h1713] at e
          refine mm_T.mask [true, true, true, true] ?_
          exact tbX4_readUnit_J80 d n rec hrec y1 y2 y3 I J rv sp 19 w nw (Or.inr rfl) out e
        · rw [if_neg h1713] at e
          refine mm_T.mask [true, false, false, false] ?_
          exact tbX4_readUnit_J74 d rec hrec I J rv sp 19 w nw out e
    · rw [if_neg h1696] at e
      refine mm_T.mask [true, false, false, false] ?_
      exact tbX4_readUnit_J74 d rec hrec I J rv sp 19 w nw out e
set_option maxRecDepth 100000 in
set_option maxHeartbeats 4000000 in
theorem tbX4_readUnit_J23 (d n : Nat) (rec : Int32 → (Nat → Nat → Int32) → (Nat → Nat → Int64) → Nat → Option (Int32 × (Nat → Nat → Int32) × (Nat → Nat → Int64))) (hrec : ∀ (x1 : Int32) (I : Nat → Nat → Int32) (J : Nat → Nat → Int64) (rv sp rr w nw : Nat), (rr = 3 ∨ rr = 19) → ∀ (out : Int32 × (Nat → Nat → Int32) × (Nat → Nat → Int64)), rec x1 I J rr = some out → mm_T none d 56 (mm_ent 56 [(.ref 16), (.int x1)]) (107, I, J, mm_rf rv sp rr w nw) (fun v h => v = some (.int out.1) ∧ h = (107, out.2.1, out.2.2, mm_rf rv sp rr w nw))) (y1 : Int32) (y2 : Int32) (u0 : Int32) (I : Nat → Nat → Int32) (J : Nat → Nat → Int64) (rv sp rr w nw : Nat) (hrr : rr = 3 ∨ rr = 19) (out : Int32 × (Nat → Nat → Int32) × (Nat → Nat → Int64)) (e : fX4_readUnit_J23 n rec y1 y2 u0 I J rr = some out) : mm_T none (d + 8) 60 (23, [some (.ref 16), some (.int y1), some (.int y2), none], [(.int u0)]) (107, I, J, mm_rf rv sp rr w nw) (fun v h => v = some (.int out.1) ∧ h = (107, out.2.1, out.2.2, mm_rf rv sp rr w nw)) := by
  rcases hrr with rfl | rfl
  · unfold fX4_readUnit_J23 at e
    obtain ⟨g240, hg240⟩ : ∃ z, fX4_givenBy u0 = z := ⟨_, rfl⟩
    try rw [hg240] at e
    refine mm_T.call (t := 62) (as := [(.int u0)]) (f' := (26, [some (.ref 16), some (.int y1), some (.int y2), none], [])) rfl (tX4_givenBy (d + 7) u0 I J rv sp 3 w nw g240 hg240) (fun v h hq => ?_)
    obtain ⟨rfl, rfl⟩ := hq
    refine mm_T.seg (f' := (28, [some (.ref 16), some (.int y1), some (.int y2), some (.int g240)], [(.int y2)])) (h' := (107, I, J, mm_rf rv sp 3 w nw)) 2 rfl ?_
    refine mm_T.br (c := y2 = 0) (a := ((31, [some (.ref 16), some (.int y1), some (.int y2), some (.int g240)], []), (107, I, J, mm_rf rv sp 3 w nw))) (b := ((49, [some (.ref 16), some (.int y1), some (.int y2), some (.int g240)], []), (107, I, J, mm_rf rv sp 3 w nw))) rfl (fun h1694 => ?_) (fun h1694 => ?_)
    · rw [if_pos h1694] at e
      refine mm_T.seg (f' := (36, [some (.ref 16), some (.int y1), some (.int y2), some (.int g240)], [(.int 2), (.int (I 16 5))])) (h' := (107, I, J, mm_rf rv sp 3 w nw)) 3 rfl ?_
      refine mm_T.br (c := (I 16 5) = 2) (a := ((49, [some (.ref 16), some (.int y1), some (.int y2), some (.int g240)], []), (107, I, J, mm_rf rv sp 3 w nw))) (b := ((39, [some (.ref 16), some (.int y1), some (.int y2), some (.int g240)], []), (107, I, J, mm_rf rv sp 3 w nw))) rfl (fun h1695 => ?_) (fun h1695 => ?_)
      · rw [if_pos h1695] at e
        refine mm_T.mask [true, true, true, true] ?_
        exact tbX4_readUnit_J49 d n rec hrec y1 y2 g240 I J rv sp 3 w nw (Or.inl rfl) out e
      · rw [if_neg h1695] at e
        refine mm_T.seg (f' := (40, [some (.ref 16), some (.int y1), some (.int y2), some (.int g240)], [(.int g240)])) (h' := (107, I, J, mm_rf rv sp 3 w nw)) 1 rfl ?_
        refine mm_T.br (c := g240 = 0) (a := ((43, [some (.ref 16), some (.int y1), some (.int y2), some (.int g240)], []), (107, I, J, mm_rf rv sp 3 w nw))) (b := ((49, [some (.ref 16), some (.int y1), some (.int y2), some (.int g240)], []), (107, I, J, mm_rf rv sp 3 w nw))) rfl (fun h1715 => ?_) (fun h1715 => ?_)
        · rw [if_pos h1715] at e
          refine mm_T.seg (f' := (45, [some (.ref 16), some (.int y1), some (.int y2), some (.int g240)], [(.int 2), (.ref 16)])) (h' := (107, I, J, mm_rf rv sp 3 w nw)) 2 rfl ?_
          obtain ⟨g243, hg243⟩ : ∃ z, fX4_refuse 2 I = z := ⟨_, rfl⟩
          try rw [hg243] at e
          refine mm_T.call (t := 30) (as := [(.ref 16), (.int 2)]) (f' := (48, [some (.ref 16), some (.int y1), some (.int y2), some (.int g240)], [])) rfl (tX4_refuse (d + 7) 2 I J rv sp 3 w nw g243 hg243) (fun v h hq => ?_)
          obtain ⟨rfl, rfl⟩ := hq
          by_cases h1716 : g243.1 = 0 ∨ g243.1 = 1
          case neg => rw [if_neg h1716] at e; cases e
          rw [if_pos h1716] at e
          cases e
          first | exact mm_T.retZ (v := some (.int g243.1)) rfl h1716 ⟨rfl, rfl⟩ | exact mm_T.retZ (v := some (.int out)) rfl h1716 ⟨rfl, rfl⟩
        · rw [if_neg h1715] at e
          refine mm_T.mask [true, true, true, true] ?_
          exact tbX4_readUnit_J49 d n rec hrec y1 y2 g240 I J rv sp 3 w nw (Or.inl rfl) out e
    · rw [if_neg h1694] at e
      refine mm_T.mask [true, true, true, true] ?_
      exact tbX4_readUnit_J49 d n rec hrec y1 y2 g240 I J rv sp 3 w nw (Or.inl rfl) out e
  · unfold fX4_readUnit_J23 at e
    obtain ⟨g240, hg240⟩ : ∃ z, fX4_givenBy u0 = z := ⟨_, rfl⟩
    try rw [hg240] at e
    refine mm_T.call (t := 62) (as := [(.int u0)]) (f' := (26, [some (.ref 16), some (.int y1), some (.int y2), none], [])) rfl (tX4_givenBy (d + 7) u0 I J rv sp 19 w nw g240 hg240) (fun v h hq => ?_)
    obtain ⟨rfl, rfl⟩ := hq
    refine mm_T.seg (f' := (28, [some (.ref 16), some (.int y1), some (.int y2), some (.int g240)], [(.int y2)])) (h' := (107, I, J, mm_rf rv sp 19 w nw)) 2 rfl ?_
    refine mm_T.br (c := y2 = 0) (a := ((31, [some (.ref 16), some (.int y1), some (.int y2), some (.int g240)], []), (107, I, J, mm_rf rv sp 19 w nw))) (b := ((49, [some (.ref 16), some (.int y1), some (.int y2), some (.int g240)], []), (107, I, J, mm_rf rv sp 19 w nw))) rfl (fun h1694 => ?_) (fun h1694 => ?_)
    · rw [if_pos h1694] at e
      refine mm_T.seg (f' := (36, [some (.ref 16), some (.int y1), some (.int y2), some (.int g240)], [(.int 2), (.int (I 16 5))])) (h' := (107, I, J, mm_rf rv sp 19 w nw)) 3 rfl ?_
      refine mm_T.br (c := (I 16 5) = 2) (a := ((49, [some (.ref 16), some (.int y1), some (.int y2), some (.int g240)], []), (107, I, J, mm_rf rv sp 19 w nw))) (b := ((39, [some (.ref 16), some (.int y1), some (.int y2), some (.int g240)], []), (107, I, J, mm_rf rv sp 19 w nw))) rfl (fun h1695 => ?_) (fun h1695 => ?_)
      · rw [if_pos h1695] at e
        refine mm_T.mask [true, true, true, true] ?_
        exact tbX4_readUnit_J49 d n rec hrec y1 y2 g240 I J rv sp 19 w nw (Or.inr rfl) out e
      · rw [if_neg h1695] at e
        refine mm_T.seg (f' := (40, [some (.ref 16), some (.int y1), some (.int y2), some (.int g240)], [(.int g240)])) (h' := (107, I, J, mm_rf rv sp 19 w nw)) 1 rfl ?_
        refine mm_T.br (c := g240 = 0) (a := ((43, [some (.ref 16), some (.int y1), some (.int y2), some (.int g240)], []), (107, I, J, mm_rf rv sp 19 w nw))) (b := ((49, [some (.ref 16), some (.int y1), some (.int y2), some (.int g240)], []), (107, I, J, mm_rf rv sp 19 w nw))) rfl (fun h1715 => ?_) (fun h1715 => ?_)
        · rw [if_pos h1715] at e
          refine mm_T.seg (f' := (45, [some (.ref 16), some (.int y1), some (.int y2), some (.int g240)], [(.int 2), (.ref 16)])) (h' := (107, I, J, mm_rf rv sp 19 w nw)) 2 rfl ?_
          obtain ⟨g243, hg243⟩ : ∃ z, fX4_refuse 2 I = z := ⟨_, rfl⟩
          try rw [hg243] at e
          refine mm_T.call (t := 30) (as := [(.ref 16), (.int 2)]) (f' := (48, [some (.ref 16), some (.int y1), some (.int y2), some (.int g240)], [])) rfl (tX4_refuse (d + 7) 2 I J rv sp 19 w nw g243 hg243) (fun v h hq => ?_)
          obtain ⟨rfl, rfl⟩ := hq
          by_cases h1716 : g243.1 = 0 ∨ g243.1 = 1
          case neg => rw [if_neg h1716] at e; cases e
          rw [if_pos h1716] at e
          cases e
          first | exact mm_T.retZ (v := some (.int g243.1)) rfl h1716 ⟨rfl, rfl⟩ | exact mm_T.retZ (v := some (.int out)) rfl h1716 ⟨rfl, rfl⟩
        · rw [if_neg h1715] at e
          refine mm_T.mask [true, true, true, true] ?_
          exact tbX4_readUnit_J49 d n rec hrec y1 y2 g240 I J rv sp 19 w nw (Or.inr rfl) out e
    · rw [if_neg h1694] at e
      refine mm_T.mask [true, true, true, true] ?_
      exact tbX4_readUnit_J49 d n rec hrec y1 y2 g240 I J rv sp 19 w nw (Or.inr rfl) out e
set_option maxRecDepth 100000 in
set_option maxHeartbeats 4000000 in
theorem tX4_readUnit (d n : Nat) (rec : Int32 → (Nat → Nat → Int32) → (Nat → Nat → Int64) → Nat → Option (Int32 × (Nat → Nat → Int32) × (Nat → Nat → Int64))) (hrec : ∀ (x1 : Int32) (I : Nat → Nat → Int32) (J : Nat → Nat → Int64) (rv sp rr w nw : Nat), (rr = 3 ∨ rr = 19) → ∀ (out : Int32 × (Nat → Nat → Int32) × (Nat → Nat → Int64)), rec x1 I J rr = some out → mm_T none d 56 (mm_ent 56 [(.ref 16), (.int x1)]) (107, I, J, mm_rf rv sp rr w nw) (fun v h => v = some (.int out.1) ∧ h = (107, out.2.1, out.2.2, mm_rf rv sp rr w nw))) (x1 : Int32) (I : Nat → Nat → Int32) (J : Nat → Nat → Int64) (rv sp rr w nw : Nat) (hrr : rr = 3 ∨ rr = 19) (out : Int32 × (Nat → Nat → Int32) × (Nat → Nat → Int64)) (e : fX4_readUnit n rec x1 I J rr = some out) : mm_T none (d + 8) 60 (mm_ent 60 [(.ref 16), (.int x1)]) (107, I, J, mm_rf rv sp rr w nw) (fun v h => v = some (.int out.1) ∧ h = (107, out.2.1, out.2.2, mm_rf rv sp rr w nw)) := by
  rcases hrr with rfl | rfl
  · unfold fX4_readUnit at e
    refine mm_T.seg (f' := (3, [some (.ref 16), some (.int x1), none, none], [(.int 40), (.ref 16)])) (h' := (107, I, J, mm_rf rv sp 3 w nw)) 2 rfl ?_
    obtain ⟨o1677, eo1677, e⟩ := mm_bind e
    refine mm_T.call (t := 39) (as := [(.ref 16), (.int 40)]) (f' := (6, [some (.ref 16), some (.int x1), none, none], [])) rfl (tX4_isSign (d + 6) 40 I J rv sp 3 w nw o1677 eo1677) (fun v h hq => ?_)
    obtain ⟨rfl, rfl⟩ := hq
    refine mm_T.seg (f' := (12, [some (.ref 16), some (.int x1), some (.int o1677), none], [(.int 1), (.int (I 16 5))])) (h' := (107, I, J, mm_rf rv sp 3 w nw)) 4 rfl ?_
    refine mm_T.br (c := (I 16 5) = 1) (a := ((15, [some (.ref 16), some (.int x1), some (.int o1677), none], []), (107, I, J, mm_rf rv sp 3 w nw))) (b := ((22, [some (.ref 16), some (.int x1), some (.int o1677), none], []), (107, I, J, mm_rf rv sp 3 w nw))) rfl (fun h1678 => ?_) (fun h1678 => ?_)
    · rw [if_pos h1678] at e
      refine mm_T.seg (f' := (23, [some (.ref 16), some (.int x1), some (.int o1677), none], [(.int (I 16 7))])) (h' := (107, I, J, mm_rf rv sp 3 w nw)) 3 rfl ?_
      refine mm_T.mask [true, true, true, false] ?_
      exact tbX4_readUnit_J23 d n rec hrec x1 o1677 (I 16 7) I J rv sp 3 w nw (Or.inl rfl) out e
    · rw [if_neg h1678] at e
      refine mm_T.seg (f' := (23, [some (.ref 16), some (.int x1), some (.int o1677), none], [(.int (-1))])) (h' := (107, I, J, mm_rf rv sp 3 w nw)) 1 rfl ?_
      refine mm_T.mask [true, true, true, false] ?_
      exact tbX4_readUnit_J23 d n rec hrec x1 o1677 (-1) I J rv sp 3 w nw (Or.inl rfl) out e
  · unfold fX4_readUnit at e
    refine mm_T.seg (f' := (3, [some (.ref 16), some (.int x1), none, none], [(.int 40), (.ref 16)])) (h' := (107, I, J, mm_rf rv sp 19 w nw)) 2 rfl ?_
    obtain ⟨o1677, eo1677, e⟩ := mm_bind e
    refine mm_T.call (t := 39) (as := [(.ref 16), (.int 40)]) (f' := (6, [some (.ref 16), some (.int x1), none, none], [])) rfl (tX4_isSign (d + 6) 40 I J rv sp 19 w nw o1677 eo1677) (fun v h hq => ?_)
    obtain ⟨rfl, rfl⟩ := hq
    refine mm_T.seg (f' := (12, [some (.ref 16), some (.int x1), some (.int o1677), none], [(.int 1), (.int (I 16 5))])) (h' := (107, I, J, mm_rf rv sp 19 w nw)) 4 rfl ?_
    refine mm_T.br (c := (I 16 5) = 1) (a := ((15, [some (.ref 16), some (.int x1), some (.int o1677), none], []), (107, I, J, mm_rf rv sp 19 w nw))) (b := ((22, [some (.ref 16), some (.int x1), some (.int o1677), none], []), (107, I, J, mm_rf rv sp 19 w nw))) rfl (fun h1678 => ?_) (fun h1678 => ?_)
    · rw [if_pos h1678] at e
      refine mm_T.seg (f' := (23, [some (.ref 16), some (.int x1), some (.int o1677), none], [(.int (I 16 7))])) (h' := (107, I, J, mm_rf rv sp 19 w nw)) 3 rfl ?_
      refine mm_T.mask [true, true, true, false] ?_
      exact tbX4_readUnit_J23 d n rec hrec x1 o1677 (I 16 7) I J rv sp 19 w nw (Or.inr rfl) out e
    · rw [if_neg h1678] at e
      refine mm_T.seg (f' := (23, [some (.ref 16), some (.int x1), some (.int o1677), none], [(.int (-1))])) (h' := (107, I, J, mm_rf rv sp 19 w nw)) 1 rfl ?_
      refine mm_T.mask [true, true, true, false] ?_
      exact tbX4_readUnit_J23 d n rec hrec x1 o1677 (-1) I J rv sp 19 w nw (Or.inr rfl) out e
set_option maxRecDepth 100000 in
set_option maxHeartbeats 4000000 in
theorem tlX4_readTerm_L12 (d : Nat) (Q : Option Value → mm_H → Prop) (rec : Int32 → (Nat → Nat → Int32) → (Nat → Nat → Int64) → Nat → Option (Int32 × (Nat → Nat → Int32) × (Nat → Nat → Int64))) (hrec : ∀ (x1 : Int32) (I : Nat → Nat → Int32) (J : Nat → Nat → Int64) (rv sp rr w nw : Nat), (rr = 3 ∨ rr = 19) → ∀ (out : Int32 × (Nat → Nat → Int32) × (Nat → Nat → Int64)), rec x1 I J rr = some out → mm_T none d 56 (mm_ent 56 [(.ref 16), (.int x1)]) (107, I, J, mm_rf rv sp rr w nw) (fun v h => v = some (.int out.1) ∧ h = (107, out.2.1, out.2.2, mm_rf rv sp rr w nw))) : ∀ (n : Nat) (y1 : Int32) (y2 : Int32) (I : Nat → Nat → Int32) (J : Nat → Nat → Int64) (rv sp rr w nw : Nat), (rr = 3 ∨ rr = 19) → ∀ (out : (Int32 ⊕ (Unit)) × (Nat → Nat → Int32) × (Nat → Nat → Int64)), fX4_readTerm_L12 n rec y1 y2 I J rr = some out → (∀ (r : Int32) (s0 : Nat → Nat → Int32) (s1 : Nat → Nat → Int64), out = (.inl r, s0, s1) → Q (some (.int r)) (107, s0, s1, mm_rf rv sp rr w nw)) → (∀ (y : Unit) (s0 : Nat → Nat → Int32) (s1 : Nat → Nat → Int64), out = (.inr y, s0, s1) → mm_T none (d + 9) 59 (108, [none, none, none, none], []) (107, s0, s1, mm_rf rv sp rr w nw) Q) → mm_T none (d + 9) 59 (12, [some (.ref 16), some (.int y1), some (.int y2), none], []) (107, I, J, mm_rf rv sp rr w nw) Q := by
  intro n
  induction n with
  | zero =>
    intro y1 y2 I J rv sp rr w nw hrr out e kr ke
    rw [fX4_readTerm_L12] at e; cases e
  | succ n ih =>
    intro y1 y2 I J rv sp rr w nw hrr out e kr ke
    rcases hrr with rfl | rfl
    · rw [fX4_readTerm_L12] at e
      refine mm_T.seg (f' := (16, [some (.ref 16), some (.int y1), some (.int y2), none], [(.int 1600), (.int y2)])) (h' := (107, I, J, mm_rf rv sp 3 w nw)) 2 rfl ?_
      refine mm_T.br (c := y2 < 1600) (a := ((19, [some (.ref 16), some (.int y1), some (.int y2), none], []), (107, I, J, mm_rf rv sp 3 w nw))) (b := ((108, [some (.ref 16), some (.int y1), some (.int y2), none], []), (107, I, J, mm_rf rv sp 3 w nw))) rfl (fun h1774 => ?_) (fun h1774 => ?_)
      · rw [if_pos h1774] at e
        refine mm_T.seg (f' := (22, [some (.ref 16), some (.int y1), some (.int y2), none], [(.int 42), (.ref 16)])) (h' := (107, I, J, mm_rf rv sp 3 w nw)) 2 rfl ?_
        obtain ⟨o1775, eo1775, e⟩ := mm_bind e
        refine mm_T.call (t := 39) (as := [(.ref 16), (.int 42)]) (f' := (25, [some (.ref 16), some (.int y1), some (.int y2), none], [])) rfl (tX4_isSign (d + 7) 42 I J rv sp 3 w nw o1775 eo1775) (fun v h hq => ?_)
        obtain ⟨rfl, rfl⟩ := hq
        refine mm_T.br (c := o1775 = 0) (a := ((28, [some (.ref 16), some (.int y1), some (.int y2), none], []), (107, I, J, mm_rf rv sp 3 w nw))) (b := ((46, [some (.ref 16), some (.int y1), some (.int y2), none], []), (107, I, J, mm_rf rv sp 3 w nw))) rfl (fun h1776 => ?_) (fun h1776 => ?_)
        · rw [if_pos h1776] at e
          refine mm_T.seg (f' := (31, [some (.ref 16), some (.int y1), some (.int y2), none], [(.int 47), (.ref 16)])) (h' := (107, I, J, mm_rf rv sp 3 w nw)) 2 rfl ?_
          obtain ⟨o1777, eo1777, e⟩ := mm_bind e
          refine mm_T.call (t := 39) (as := [(.ref 16), (.int 47)]) (f' := (34, [some (.ref 16), some (.int y1), some (.int y2), none], [])) rfl (tX4_isSign (d + 7) 47 I J rv sp 3 w nw o1777 eo1777) (fun v h hq => ?_)
          obtain ⟨rfl, rfl⟩ := hq
          refine mm_T.br (c := o1777 = 0) (a := ((37, [some (.ref 16), some (.int y1), some (.int y2), none], []), (107, I, J, mm_rf rv sp 3 w nw))) (b := ((46, [some (.ref 16), some (.int y1), some (.int y2), none], []), (107, I, J, mm_rf rv sp 3 w nw))) rfl (fun h1778 => ?_) (fun h1778 => ?_)
          · rw [if_pos h1778] at e
            refine mm_T.seg (f' := (40, [some (.ref 16), some (.int y1), some (.int y2), none], [(.int 37), (.ref 16)])) (h' := (107, I, J, mm_rf rv sp 3 w nw)) 2 rfl ?_
            obtain ⟨o1779, eo1779, e⟩ := mm_bind e
            refine mm_T.call (t := 39) (as := [(.ref 16), (.int 37)]) (f' := (43, [some (.ref 16), some (.int y1), some (.int y2), none], [])) rfl (tX4_isSign (d + 7) 37 I J rv sp 3 w nw o1779 eo1779) (fun v h hq => ?_)
            obtain ⟨rfl, rfl⟩ := hq
            refine mm_T.br (c := o1779 = 0) (a := ((108, [some (.ref 16), some (.int y1), some (.int y2), none], []), (107, I, J, mm_rf rv sp 3 w nw))) (b := ((46, [some (.ref 16), some (.int y1), some (.int y2), none], []), (107, I, J, mm_rf rv sp 3 w nw))) rfl (fun h1780 => ?_) (fun h1780 => ?_)
            · rw [if_pos h1780] at e
              cases e
              refine mm_T.mask [false, false, false, false] ?_
              exact ke _ _ _ rfl
            · rw [if_neg h1780] at e
              refine mm_T.seg (f' := (49, [some (.ref 16), some (.int y1), some (.int y2), none], [(.int 42), (.ref 16)])) (h' := (107, I, J, mm_rf rv sp 3 w nw)) 2 rfl ?_
              obtain ⟨o1781, eo1781, e⟩ := mm_bind e
              refine mm_T.call (t := 39) (as := [(.ref 16), (.int 42)]) (f' := (52, [some (.ref 16), some (.int y1), some (.int y2), none], [])) rfl (tX4_isSign (d + 7) 42 I J rv sp 3 w nw o1781 eo1781) (fun v h hq => ?_)
              obtain ⟨rfl, rfl⟩ := hq
              refine mm_T.br (c := o1781 = 0) (a := ((60, [some (.ref 16), some (.int y1), some (.int y2), none], []), (107, I, J, mm_rf rv sp 3 w nw))) (b := ((55, [some (.ref 16), some (.int y1), some (.int y2), none], []), (107, I, J, mm_rf rv sp 3 w nw))) rfl (fun h1782 => ?_) (fun h1782 => ?_)
              · rw [if_pos h1782] at e
                refine mm_T.seg (f' := (63, [some (.ref 16), some (.int y1), some (.int y2), none], [(.int 47), (.ref 16)])) (h' := (107, I, J, mm_rf rv sp 3 w nw)) 2 rfl ?_
                obtain ⟨o1783, eo1783, e⟩ := mm_bind e
                refine mm_T.call (t := 39) (as := [(.ref 16), (.int 47)]) (f' := (66, [some (.ref 16), some (.int y1), some (.int y2), none], [])) rfl (tX4_isSign (d + 7) 47 I J rv sp 3 w nw o1783 eo1783) (fun v h hq => ?_)
                obtain ⟨rfl, rfl⟩ := hq
                refine mm_T.br (c := o1783 = 0) (a := ((74, [some (.ref 16), some (.int y1), some (.int y2), none], []), (107, I, J, mm_rf rv sp 3 w nw))) (b := ((69, [some (.ref 16), some (.int y1), some (.int y2), none], []), (107, I, J, mm_rf rv sp 3 w nw))) rfl (fun h1784 => ?_) (fun h1784 => ?_)
                · rw [if_pos h1784] at e
                  refine mm_T.seg (f' := (78, [some (.ref 16), some (.int y1), some (.int y2), some (.int (-17))], [(.ref 16)])) (h' := (107, I, J, mm_rf rv sp 3 w nw)) 3 rfl ?_
                  obtain ⟨o1785, eo1785, e⟩ := mm_bind e
                  refine mm_T.call (t := 34) (as := [(.ref 16)]) (f' := (81, [some (.ref 16), some (.int y1), some (.int y2), some (.int (-17))], [])) rfl (tX4_advance (d + 4) n I J rv sp 3 w nw o1785 eo1785) (fun v h hq => ?_)
                  obtain ⟨rfl, rfl⟩ := hq
                  refine mm_T.seg (f' := (83, [some (.ref 16), some (.int y1), some (.int y2), some (.int (-17))], [(.int y1), (.ref 16)])) (h' := (107, o1785.1, o1785.2, mm_rf rv sp 3 w nw)) 2 rfl ?_
                  obtain ⟨o1786, eo1786, e⟩ := mm_bind e
                  refine mm_T.call (t := 60) (as := [(.ref 16), (.int y1)]) (f' := (86, [some (.ref 16), some (.int y1), some (.int y2), some (.int (-17))], [])) rfl (mm_T.deep (tX4_readUnit d n rec hrec y1 o1785.1 o1785.2 rv sp 3 w nw (Or.inl rfl) o1786 eo1786) (by omega)) (fun v h hq => ?_)
                  obtain ⟨rfl, rfl⟩ := hq
                  refine mm_T.br (c := o1786.1 = 0) (a := ((89, [some (.ref 16), some (.int y1), some (.int y2), some (.int (-17))], []), (107, o1786.2.1, o1786.2.2, mm_rf rv sp 3 w nw))) (b := ((91, [some (.ref 16), some (.int y1), some (.int y2), some (.int (-17))], []), (107, o1786.2.1, o1786.2.2, mm_rf rv sp 3 w nw))) rfl (fun h1787 => ?_) (fun h1787 => ?_)
                  · rw [if_pos h1787] at e
                    refine mm_T.seg (f' := (90, [some (.ref 16), some (.int y1), some (.int y2), some (.int (-17))], [(.int 0)])) (h' := (107, o1786.2.1, o1786.2.2, mm_rf rv sp 3 w nw)) 1 rfl ?_
                    cases e
                    exact mm_T.ret rfl (kr _ _ _ rfl)
                  · rw [if_neg h1787] at e
                    refine mm_T.seg (f' := (95, [some (.ref 16), some (.int y1), some (.int y2), some (.int (-17))], [(.ref 3)])) (h' := (107, o1786.2.1, o1786.2.2, mm_rf rv sp 3 w nw)) 2 rfl ?_
                    refine mm_T.seg (f' := (99, [some (.ref 16), some (.int y1), some (.int y2), some (.int (-17))], [(.int (-17)), (.ref (3 + 1))])) (h' := (107, o1786.2.1, o1786.2.2, mm_rf rv sp 3 w nw)) 2 rfl ?_
                    obtain ⟨o1788, eo1788, e⟩ := mm_bind e
                    refine mm_T.call (t := 2) (as := [(.ref (3 + 1)), (.int (-17))]) (f' := (102, [some (.ref 16), some (.int y1), some (.int y2), some (.int (-17))], [])) rfl (tX0_add (d + 8) (-17) (3 + 1) o1786.2.1 o1786.2.2 rv sp 3 w nw (Or.inl rfl) o1788 eo1788) (fun v h hq => ?_)
                    obtain ⟨rfl, rfl⟩ := hq
                    refine mm_T.seg (f' := (12, [some (.ref 16), some (.int y1), some (.int (y2 + 1)), some (.int (-17))], [])) (h' := (107, o1788, o1786.2.2, mm_rf rv sp 3 w nw)) 2 rfl ?_
                    refine mm_T.mask [true, true, true, false] ?_
                    exact ih y1 (y2 + 1) o1788 o1786.2.2 rv sp 3 w nw (Or.inl rfl) out e kr ke
                · rw [if_neg h1784] at e
                  refine mm_T.seg (f' := (78, [some (.ref 16), some (.int y1), some (.int y2), some (.int (-16))], [(.ref 16)])) (h' := (107, I, J, mm_rf rv sp 3 w nw)) 4 rfl ?_
                  obtain ⟨o1789, eo1789, e⟩ := mm_bind e
                  refine mm_T.call (t := 34) (as := [(.ref 16)]) (f' := (81, [some (.ref 16), some (.int y1), some (.int y2), some (.int (-16))], [])) rfl (tX4_advance (d + 4) n I J rv sp 3 w nw o1789 eo1789) (fun v h hq => ?_)
                  obtain ⟨rfl, rfl⟩ := hq
                  refine mm_T.seg (f' := (83, [some (.ref 16), some (.int y1), some (.int y2), some (.int (-16))], [(.int y1), (.ref 16)])) (h' := (107, o1789.1, o1789.2, mm_rf rv sp 3 w nw)) 2 rfl ?_
                  obtain ⟨o1790, eo1790, e⟩ := mm_bind e
                  refine mm_T.call (t := 60) (as := [(.ref 16), (.int y1)]) (f' := (86, [some (.ref 16), some (.int y1), some (.int y2), some (.int (-16))], [])) rfl (mm_T.deep (tX4_readUnit d n rec hrec y1 o1789.1 o1789.2 rv sp 3 w nw (Or.inl rfl) o1790 eo1790) (by omega)) (fun v h hq => ?_)
                  obtain ⟨rfl, rfl⟩ := hq
                  refine mm_T.br (c := o1790.1 = 0) (a := ((89, [some (.ref 16), some (.int y1), some (.int y2), some (.int (-16))], []), (107, o1790.2.1, o1790.2.2, mm_rf rv sp 3 w nw))) (b := ((91, [some (.ref 16), some (.int y1), some (.int y2), some (.int (-16))], []), (107, o1790.2.1, o1790.2.2, mm_rf rv sp 3 w nw))) rfl (fun h1791 => ?_) (fun h1791 => ?_)
                  · rw [if_pos h1791] at e
                    refine mm_T.seg (f' := (90, [some (.ref 16), some (.int y1), some (.int y2), some (.int (-16))], [(.int 0)])) (h' := (107, o1790.2.1, o1790.2.2, mm_rf rv sp 3 w nw)) 1 rfl ?_
                    cases e
                    exact mm_T.ret rfl (kr _ _ _ rfl)
                  · rw [if_neg h1791] at e
                    refine mm_T.seg (f' := (95, [some (.ref 16), some (.int y1), some (.int y2), some (.int (-16))], [(.ref 3)])) (h' := (107, o1790.2.1, o1790.2.2, mm_rf rv sp 3 w nw)) 2 rfl ?_
                    refine mm_T.seg (f' := (99, [some (.ref 16), some (.int y1), some (.int y2), some (.int (-16))], [(.int (-16)), (.ref (3 + 1))])) (h' := (107, o1790.2.1, o1790.2.2, mm_rf rv sp 3 w nw)) 2 rfl ?_
                    obtain ⟨o1792, eo1792, e⟩ := mm_bind e
                    refine mm_T.call (t := 2) (as := [(.ref (3 + 1)), (.int (-16))]) (f' := (102, [some (.ref 16), some (.int y1), some (.int y2), some (.int (-16))], [])) rfl (tX0_add (d + 8) (-16) (3 + 1) o1790.2.1 o1790.2.2 rv sp 3 w nw (Or.inl rfl) o1792 eo1792) (fun v h hq => ?_)
                    obtain ⟨rfl, rfl⟩ := hq
                    refine mm_T.seg (f' := (12, [some (.ref 16), some (.int y1), some (.int (y2 + 1)), some (.int (-16))], [])) (h' := (107, o1792, o1790.2.2, mm_rf rv sp 3 w nw)) 2 rfl ?_
                    refine mm_T.mask [true, true, true, false] ?_
                    exact ih y1 (y2 + 1) o1792 o1790.2.2 rv sp 3 w nw (Or.inl rfl) out e kr ke
              · rw [if_neg h1782] at e
                refine mm_T.seg (f' := (78, [some (.ref 16), some (.int y1), some (.int y2), some (.int (-15))], [(.ref 16)])) (h' := (107, I, J, mm_rf rv sp 3 w nw)) 4 rfl ?_
                obtain ⟨o1793, eo1793, e⟩ := mm_bind e
                refine mm_T.call (t := 34) (as := [(.ref 16)]) (f' := (81, [some (.ref 16), some (.int y1), some (.int y2), some (.int (-15))], [])) rfl (tX4_advance (d + 4) n I J rv sp 3 w nw o1793 eo1793) (fun v h hq => ?_)
                obtain ⟨rfl, rfl⟩ := hq
                refine mm_T.seg (f' := (83, [some (.ref 16), some (.int y1), some (.int y2), some (.int (-15))], [(.int y1), (.ref 16)])) (h' := (107, o1793.1, o1793.2, mm_rf rv sp 3 w nw)) 2 rfl ?_
                obtain ⟨o1794, eo1794, e⟩ := mm_bind e
                refine mm_T.call (t := 60) (as := [(.ref 16), (.int y1)]) (f' := (86, [some (.ref 16), some (.int y1), some (.int y2), some (.int (-15))], [])) rfl (mm_T.deep (tX4_readUnit d n rec hrec y1 o1793.1 o1793.2 rv sp 3 w nw (Or.inl rfl) o1794 eo1794) (by omega)) (fun v h hq => ?_)
                obtain ⟨rfl, rfl⟩ := hq
                refine mm_T.br (c := o1794.1 = 0) (a := ((89, [some (.ref 16), some (.int y1), some (.int y2), some (.int (-15))], []), (107, o1794.2.1, o1794.2.2, mm_rf rv sp 3 w nw))) (b := ((91, [some (.ref 16), some (.int y1), some (.int y2), some (.int (-15))], []), (107, o1794.2.1, o1794.2.2, mm_rf rv sp 3 w nw))) rfl (fun h1795 => ?_) (fun h1795 => ?_)
                · rw [if_pos h1795] at e
                  refine mm_T.seg (f' := (90, [some (.ref 16), some (.int y1), some (.int y2), some (.int (-15))], [(.int 0)])) (h' := (107, o1794.2.1, o1794.2.2, mm_rf rv sp 3 w nw)) 1 rfl ?_
                  cases e
                  exact mm_T.ret rfl (kr _ _ _ rfl)
                · rw [if_neg h1795] at e
                  refine mm_T.seg (f' := (95, [some (.ref 16), some (.int y1), some (.int y2), some (.int (-15))], [(.ref 3)])) (h' := (107, o1794.2.1, o1794.2.2, mm_rf rv sp 3 w nw)) 2 rfl ?_
                  refine mm_T.seg (f' := (99, [some (.ref 16), some (.int y1), some (.int y2), some (.int (-15))], [(.int (-15)), (.ref (3 + 1))])) (h' := (107, o1794.2.1, o1794.2.2, mm_rf rv sp 3 w nw)) 2 rfl ?_
                  obtain ⟨o1796, eo1796, e⟩ := mm_bind e
                  refine mm_T.call (t := 2) (as := [(.ref (3 + 1)), (.int (-15))]) (f' := (102, [some (.ref 16), some (.int y1), some (.int y2), some (.int (-15))], [])) rfl (tX0_add (d + 8) (-15) (3 + 1) o1794.2.1 o1794.2.2 rv sp 3 w nw (Or.inl rfl) o1796 eo1796) (fun v h hq => ?_)
                  obtain ⟨rfl, rfl⟩ := hq
                  refine mm_T.seg (f' := (12, [some (.ref 16), some (.int y1), some (.int (y2 + 1)), some (.int (-15))], [])) (h' := (107, o1796, o1794.2.2, mm_rf rv sp 3 w nw)) 2 rfl ?_
                  refine mm_T.mask [true, true, true, false] ?_
                  exact ih y1 (y2 + 1) o1796 o1794.2.2 rv sp 3 w nw (Or.inl rfl) out e kr ke
          · rw [if_neg h1778] at e
            refine mm_T.seg (f' := (49, [some (.ref 16), some (.int y1), some (.int y2), none], [(.int 42), (.ref 16)])) (h' := (107, I, J, mm_rf rv sp 3 w nw)) 2 rfl ?_
            obtain ⟨o1797, eo1797, e⟩ := mm_bind e
            refine mm_T.call (t := 39) (as := [(.ref 16), (.int 42)]) (f' := (52, [some (.ref 16), some (.int y1), some (.int y2), none], [])) rfl (tX4_isSign (d + 7) 42 I J rv sp 3 w nw o1797 eo1797) (fun v h hq => ?_)
            obtain ⟨rfl, rfl⟩ := hq
            refine mm_T.br (c := o1797 = 0) (a := ((60, [some (.ref 16), some (.int y1), some (.int y2), none], []), (107, I, J, mm_rf rv sp 3 w nw))) (b := ((55, [some (.ref 16), some (.int y1), some (.int y2), none], []), (107, I, J, mm_rf rv sp 3 w nw))) rfl (fun h1798 => ?_) (fun h1798 => ?_)
            · rw [if_pos h1798] at e
              refine mm_T.seg (f' := (63, [some (.ref 16), some (.int y1), some (.int y2), none], [(.int 47), (.ref 16)])) (h' := (107, I, J, mm_rf rv sp 3 w nw)) 2 rfl ?_
              obtain ⟨o1799, eo1799, e⟩ := mm_bind e
              refine mm_T.call (t := 39) (as := [(.ref 16), (.int 47)]) (f' := (66, [some (.ref 16), some (.int y1), some (.int y2), none], [])) rfl (tX4_isSign (d + 7) 47 I J rv sp 3 w nw o1799 eo1799) (fun v h hq => ?_)
              obtain ⟨rfl, rfl⟩ := hq
              refine mm_T.br (c := o1799 = 0) (a := ((74, [some (.ref 16), some (.int y1), some (.int y2), none], []), (107, I, J, mm_rf rv sp 3 w nw))) (b := ((69, [some (.ref 16), some (.int y1), some (.int y2), none], []), (107, I, J, mm_rf rv sp 3 w nw))) rfl (fun h1800 => ?_) (fun h1800 => ?_)
              · rw [if_pos h1800] at e
                refine mm_T.seg (f' := (78, [some (.ref 16), some (.int y1), some (.int y2), some (.int (-17))], [(.ref 16)])) (h' := (107, I, J, mm_rf rv sp 3 w nw)) 3 rfl ?_
                obtain ⟨o1801, eo1801, e⟩ := mm_bind e
                refine mm_T.call (t := 34) (as := [(.ref 16)]) (f' := (81, [some (.ref 16), some (.int y1), some (.int y2), some (.int (-17))], [])) rfl (tX4_advance (d + 4) n I J rv sp 3 w nw o1801 eo1801) (fun v h hq => ?_)
                obtain ⟨rfl, rfl⟩ := hq
                refine mm_T.seg (f' := (83, [some (.ref 16), some (.int y1), some (.int y2), some (.int (-17))], [(.int y1), (.ref 16)])) (h' := (107, o1801.1, o1801.2, mm_rf rv sp 3 w nw)) 2 rfl ?_
                obtain ⟨o1802, eo1802, e⟩ := mm_bind e
                refine mm_T.call (t := 60) (as := [(.ref 16), (.int y1)]) (f' := (86, [some (.ref 16), some (.int y1), some (.int y2), some (.int (-17))], [])) rfl (mm_T.deep (tX4_readUnit d n rec hrec y1 o1801.1 o1801.2 rv sp 3 w nw (Or.inl rfl) o1802 eo1802) (by omega)) (fun v h hq => ?_)
                obtain ⟨rfl, rfl⟩ := hq
                refine mm_T.br (c := o1802.1 = 0) (a := ((89, [some (.ref 16), some (.int y1), some (.int y2), some (.int (-17))], []), (107, o1802.2.1, o1802.2.2, mm_rf rv sp 3 w nw))) (b := ((91, [some (.ref 16), some (.int y1), some (.int y2), some (.int (-17))], []), (107, o1802.2.1, o1802.2.2, mm_rf rv sp 3 w nw))) rfl (fun h1803 => ?_) (fun h1803 => ?_)
                · rw [if_pos h1803] at e
                  refine mm_T.seg (f' := (90, [some (.ref 16), some (.int y1), some (.int y2), some (.int (-17))], [(.int 0)])) (h' := (107, o1802.2.1, o1802.2.2, mm_rf rv sp 3 w nw)) 1 rfl ?_
                  cases e
                  exact mm_T.ret rfl (kr _ _ _ rfl)
                · rw [if_neg h1803] at e
                  refine mm_T.seg (f' := (95, [some (.ref 16), some (.int y1), some (.int y2), some (.int (-17))], [(.ref 3)])) (h' := (107, o1802.2.1, o1802.2.2, mm_rf rv sp 3 w nw)) 2 rfl ?_
                  refine mm_T.seg (f' := (99, [some (.ref 16), some (.int y1), some (.int y2), some (.int (-17))], [(.int (-17)), (.ref (3 + 1))])) (h' := (107, o1802.2.1, o1802.2.2, mm_rf rv sp 3 w nw)) 2 rfl ?_
                  obtain ⟨o1804, eo1804, e⟩ := mm_bind e
                  refine mm_T.call (t := 2) (as := [(.ref (3 + 1)), (.int (-17))]) (f' := (102, [some (.ref 16), some (.int y1), some (.int y2), some (.int (-17))], [])) rfl (tX0_add (d + 8) (-17) (3 + 1) o1802.2.1 o1802.2.2 rv sp 3 w nw (Or.inl rfl) o1804 eo1804) (fun v h hq => ?_)
                  obtain ⟨rfl, rfl⟩ := hq
                  refine mm_T.seg (f' := (12, [some (.ref 16), some (.int y1), some (.int (y2 + 1)), some (.int (-17))], [])) (h' := (107, o1804, o1802.2.2, mm_rf rv sp 3 w nw)) 2 rfl ?_
                  refine mm_T.mask [true, true, true, false] ?_
                  exact ih y1 (y2 + 1) o1804 o1802.2.2 rv sp 3 w nw (Or.inl rfl) out e kr ke
              · rw [if_neg h1800] at e
                refine mm_T.seg (f' := (78, [some (.ref 16), some (.int y1), some (.int y2), some (.int (-16))], [(.ref 16)])) (h' := (107, I, J, mm_rf rv sp 3 w nw)) 4 rfl ?_
                obtain ⟨o1805, eo1805, e⟩ := mm_bind e
                refine mm_T.call (t := 34) (as := [(.ref 16)]) (f' := (81, [some (.ref 16), some (.int y1), some (.int y2), some (.int (-16))], [])) rfl (tX4_advance (d + 4) n I J rv sp 3 w nw o1805 eo1805) (fun v h hq => ?_)
                obtain ⟨rfl, rfl⟩ := hq
                refine mm_T.seg (f' := (83, [some (.ref 16), some (.int y1), some (.int y2), some (.int (-16))], [(.int y1), (.ref 16)])) (h' := (107, o1805.1, o1805.2, mm_rf rv sp 3 w nw)) 2 rfl ?_
                obtain ⟨o1806, eo1806, e⟩ := mm_bind e
                refine mm_T.call (t := 60) (as := [(.ref 16), (.int y1)]) (f' := (86, [some (.ref 16), some (.int y1), some (.int y2), some (.int (-16))], [])) rfl (mm_T.deep (tX4_readUnit d n rec hrec y1 o1805.1 o1805.2 rv sp 3 w nw (Or.inl rfl) o1806 eo1806) (by omega)) (fun v h hq => ?_)
                obtain ⟨rfl, rfl⟩ := hq
                refine mm_T.br (c := o1806.1 = 0) (a := ((89, [some (.ref 16), some (.int y1), some (.int y2), some (.int (-16))], []), (107, o1806.2.1, o1806.2.2, mm_rf rv sp 3 w nw))) (b := ((91, [some (.ref 16), some (.int y1), some (.int y2), some (.int (-16))], []), (107, o1806.2.1, o1806.2.2, mm_rf rv sp 3 w nw))) rfl (fun h1807 => ?_) (fun h1807 => ?_)
                · rw [if_pos h1807] at e
                  refine mm_T.seg (f' := (90, [some (.ref 16), some (.int y1), some (.int y2), some (.int (-16))], [(.int 0)])) (h' := (107, o1806.2.1, o1806.2.2, mm_rf rv sp 3 w nw)) 1 rfl ?_
                  cases e
                  exact mm_T.ret rfl (kr _ _ _ rfl)
                · rw [if_neg h1807] at e
                  refine mm_T.seg (f' := (95, [some (.ref 16), some (.int y1), some (.int y2), some (.int (-16))], [(.ref 3)])) (h' := (107, o1806.2.1, o1806.2.2, mm_rf rv sp 3 w nw)) 2 rfl ?_
                  refine mm_T.seg (f' := (99, [some (.ref 16), some (.int y1), some (.int y2), some (.int (-16))], [(.int (-16)), (.ref (3 + 1))])) (h' := (107, o1806.2.1, o1806.2.2, mm_rf rv sp 3 w nw)) 2 rfl ?_
                  obtain ⟨o1808, eo1808, e⟩ := mm_bind e
                  refine mm_T.call (t := 2) (as := [(.ref (3 + 1)), (.int (-16))]) (f' := (102, [some (.ref 16), some (.int y1), some (.int y2), some (.int (-16))], [])) rfl (tX0_add (d + 8) (-16) (3 + 1) o1806.2.1 o1806.2.2 rv sp 3 w nw (Or.inl rfl) o1808 eo1808) (fun v h hq => ?_)
                  obtain ⟨rfl, rfl⟩ := hq
                  refine mm_T.seg (f' := (12, [some (.ref 16), some (.int y1), some (.int (y2 + 1)), some (.int (-16))], [])) (h' := (107, o1808, o1806.2.2, mm_rf rv sp 3 w nw)) 2 rfl ?_
                  refine mm_T.mask [true, true, true, false] ?_
                  exact ih y1 (y2 + 1) o1808 o1806.2.2 rv sp 3 w nw (Or.inl rfl) out e kr ke
            · rw [if_neg h1798] at e
              refine mm_T.seg (f' := (78, [some (.ref 16), some (.int y1), some (.int y2), some (.int (-15))], [(.ref 16)])) (h' := (107, I, J, mm_rf rv sp 3 w nw)) 4 rfl ?_
              obtain ⟨o1809, eo1809, e⟩ := mm_bind e
              refine mm_T.call (t := 34) (as := [(.ref 16)]) (f' := (81, [some (.ref 16), some (.int y1), some (.int y2), some (.int (-15))], [])) rfl (tX4_advance (d + 4) n I J rv sp 3 w nw o1809 eo1809) (fun v h hq => ?_)
              obtain ⟨rfl, rfl⟩ := hq
              refine mm_T.seg (f' := (83, [some (.ref 16), some (.int y1), some (.int y2), some (.int (-15))], [(.int y1), (.ref 16)])) (h' := (107, o1809.1, o1809.2, mm_rf rv sp 3 w nw)) 2 rfl ?_
              obtain ⟨o1810, eo1810, e⟩ := mm_bind e
              refine mm_T.call (t := 60) (as := [(.ref 16), (.int y1)]) (f' := (86, [some (.ref 16), some (.int y1), some (.int y2), some (.int (-15))], [])) rfl (mm_T.deep (tX4_readUnit d n rec hrec y1 o1809.1 o1809.2 rv sp 3 w nw (Or.inl rfl) o1810 eo1810) (by omega)) (fun v h hq => ?_)
              obtain ⟨rfl, rfl⟩ := hq
              refine mm_T.br (c := o1810.1 = 0) (a := ((89, [some (.ref 16), some (.int y1), some (.int y2), some (.int (-15))], []), (107, o1810.2.1, o1810.2.2, mm_rf rv sp 3 w nw))) (b := ((91, [some (.ref 16), some (.int y1), some (.int y2), some (.int (-15))], []), (107, o1810.2.1, o1810.2.2, mm_rf rv sp 3 w nw))) rfl (fun h1811 => ?_) (fun h1811 => ?_)
              · rw [if_pos h1811] at e
                refine mm_T.seg (f' := (90, [some (.ref 16), some (.int y1), some (.int y2), some (.int (-15))], [(.int 0)])) (h' := (107, o1810.2.1, o1810.2.2, mm_rf rv sp 3 w nw)) 1 rfl ?_
                cases e
                exact mm_T.ret rfl (kr _ _ _ rfl)
              · rw [if_neg h1811] at e
                refine mm_T.seg (f' := (95, [some (.ref 16), some (.int y1), some (.int y2), some (.int (-15))], [(.ref 3)])) (h' := (107, o1810.2.1, o1810.2.2, mm_rf rv sp 3 w nw)) 2 rfl ?_
                refine mm_T.seg (f' := (99, [some (.ref 16), some (.int y1), some (.int y2), some (.int (-15))], [(.int (-15)), (.ref (3 + 1))])) (h' := (107, o1810.2.1, o1810.2.2, mm_rf rv sp 3 w nw)) 2 rfl ?_
                obtain ⟨o1812, eo1812, e⟩ := mm_bind e
                refine mm_T.call (t := 2) (as := [(.ref (3 + 1)), (.int (-15))]) (f' := (102, [some (.ref 16), some (.int y1), some (.int y2), some (.int (-15))], [])) rfl (tX0_add (d + 8) (-15) (3 + 1) o1810.2.1 o1810.2.2 rv sp 3 w nw (Or.inl rfl) o1812 eo1812) (fun v h hq => ?_)
                obtain ⟨rfl, rfl⟩ := hq
                refine mm_T.seg (f' := (12, [some (.ref 16), some (.int y1), some (.int (y2 + 1)), some (.int (-15))], [])) (h' := (107, o1812, o1810.2.2, mm_rf rv sp 3 w nw)) 2 rfl ?_
                refine mm_T.mask [true, true, true, false] ?_
                exact ih y1 (y2 + 1) o1812 o1810.2.2 rv sp 3 w nw (Or.inl rfl) out e kr ke
        · rw [if_neg h1776] at e
          refine mm_T.seg (f' := (49, [some (.ref 16), some (.int y1), some (.int y2), none], [(.int 42), (.ref 16)])) (h' := (107, I, J, mm_rf rv sp 3 w nw)) 2 rfl ?_
          obtain ⟨o1813, eo1813, e⟩ := mm_bind e
          refine mm_T.call (t := 39) (as := [(.ref 16), (.int 42)]) (f' := (52, [some (.ref 16), some (.int y1), some (.int y2), none], [])) rfl (tX4_isSign (d + 7) 42 I J rv sp 3 w nw o1813 eo1813) (fun v h hq => ?_)
          obtain ⟨rfl, rfl⟩ := hq
          refine mm_T.br (c := o1813 = 0) (a := ((60, [some (.ref 16), some (.int y1), some (.int y2), none], []), (107, I, J, mm_rf rv sp 3 w nw))) (b := ((55, [some (.ref 16), some (.int y1), some (.int y2), none], []), (107, I, J, mm_rf rv sp 3 w nw))) rfl (fun h1814 => ?_) (fun h1814 => ?_)
          · rw [if_pos h1814] at e
            refine mm_T.seg (f' := (63, [some (.ref 16), some (.int y1), some (.int y2), none], [(.int 47), (.ref 16)])) (h' := (107, I, J, mm_rf rv sp 3 w nw)) 2 rfl ?_
            obtain ⟨o1815, eo1815, e⟩ := mm_bind e
            refine mm_T.call (t := 39) (as := [(.ref 16), (.int 47)]) (f' := (66, [some (.ref 16), some (.int y1), some (.int y2), none], [])) rfl (tX4_isSign (d + 7) 47 I J rv sp 3 w nw o1815 eo1815) (fun v h hq => ?_)
            obtain ⟨rfl, rfl⟩ := hq
            refine mm_T.br (c := o1815 = 0) (a := ((74, [some (.ref 16), some (.int y1), some (.int y2), none], []), (107, I, J, mm_rf rv sp 3 w nw))) (b := ((69, [some (.ref 16), some (.int y1), some (.int y2), none], []), (107, I, J, mm_rf rv sp 3 w nw))) rfl (fun h1816 => ?_) (fun h1816 => ?_)
            · rw [if_pos h1816] at e
              refine mm_T.seg (f' := (78, [some (.ref 16), some (.int y1), some (.int y2), some (.int (-17))], [(.ref 16)])) (h' := (107, I, J, mm_rf rv sp 3 w nw)) 3 rfl ?_
              obtain ⟨o1817, eo1817, e⟩ := mm_bind e
              refine mm_T.call (t := 34) (as := [(.ref 16)]) (f' := (81, [some (.ref 16), some (.int y1), some (.int y2), some (.int (-17))], [])) rfl (tX4_advance (d + 4) n I J rv sp 3 w nw o1817 eo1817) (fun v h hq => ?_)
              obtain ⟨rfl, rfl⟩ := hq
              refine mm_T.seg (f' := (83, [some (.ref 16), some (.int y1), some (.int y2), some (.int (-17))], [(.int y1), (.ref 16)])) (h' := (107, o1817.1, o1817.2, mm_rf rv sp 3 w nw)) 2 rfl ?_
              obtain ⟨o1818, eo1818, e⟩ := mm_bind e
              refine mm_T.call (t := 60) (as := [(.ref 16), (.int y1)]) (f' := (86, [some (.ref 16), some (.int y1), some (.int y2), some (.int (-17))], [])) rfl (mm_T.deep (tX4_readUnit d n rec hrec y1 o1817.1 o1817.2 rv sp 3 w nw (Or.inl rfl) o1818 eo1818) (by omega)) (fun v h hq => ?_)
              obtain ⟨rfl, rfl⟩ := hq
              refine mm_T.br (c := o1818.1 = 0) (a := ((89, [some (.ref 16), some (.int y1), some (.int y2), some (.int (-17))], []), (107, o1818.2.1, o1818.2.2, mm_rf rv sp 3 w nw))) (b := ((91, [some (.ref 16), some (.int y1), some (.int y2), some (.int (-17))], []), (107, o1818.2.1, o1818.2.2, mm_rf rv sp 3 w nw))) rfl (fun h1819 => ?_) (fun h1819 => ?_)
              · rw [if_pos h1819] at e
                refine mm_T.seg (f' := (90, [some (.ref 16), some (.int y1), some (.int y2), some (.int (-17))], [(.int 0)])) (h' := (107, o1818.2.1, o1818.2.2, mm_rf rv sp 3 w nw)) 1 rfl ?_
                cases e
                exact mm_T.ret rfl (kr _ _ _ rfl)
              · rw [if_neg h1819] at e
                refine mm_T.seg (f' := (95, [some (.ref 16), some (.int y1), some (.int y2), some (.int (-17))], [(.ref 3)])) (h' := (107, o1818.2.1, o1818.2.2, mm_rf rv sp 3 w nw)) 2 rfl ?_
                refine mm_T.seg (f' := (99, [some (.ref 16), some (.int y1), some (.int y2), some (.int (-17))], [(.int (-17)), (.ref (3 + 1))])) (h' := (107, o1818.2.1, o1818.2.2, mm_rf rv sp 3 w nw)) 2 rfl ?_
                obtain ⟨o1820, eo1820, e⟩ := mm_bind e
                refine mm_T.call (t := 2) (as := [(.ref (3 + 1)), (.int (-17))]) (f' := (102, [some (.ref 16), some (.int y1), some (.int y2), some (.int (-17))], [])) rfl (tX0_add (d + 8) (-17) (3 + 1) o1818.2.1 o1818.2.2 rv sp 3 w nw (Or.inl rfl) o1820 eo1820) (fun v h hq => ?_)
                obtain ⟨rfl, rfl⟩ := hq
                refine mm_T.seg (f' := (12, [some (.ref 16), some (.int y1), some (.int (y2 + 1)), some (.int (-17))], [])) (h' := (107, o1820, o1818.2.2, mm_rf rv sp 3 w nw)) 2 rfl ?_
                refine mm_T.mask [true, true, true, false] ?_
                exact ih y1 (y2 + 1) o1820 o1818.2.2 rv sp 3 w nw (Or.inl rfl) out e kr ke
            · rw [if_neg h1816] at e
              refine mm_T.seg (f' := (78, [some (.ref 16), some (.int y1), some (.int y2), some (.int (-16))], [(.ref 16)])) (h' := (107, I, J, mm_rf rv sp 3 w nw)) 4 rfl ?_
              obtain ⟨o1821, eo1821, e⟩ := mm_bind e
              refine mm_T.call (t := 34) (as := [(.ref 16)]) (f' := (81, [some (.ref 16), some (.int y1), some (.int y2), some (.int (-16))], [])) rfl (tX4_advance (d + 4) n I J rv sp 3 w nw o1821 eo1821) (fun v h hq => ?_)
              obtain ⟨rfl, rfl⟩ := hq
              refine mm_T.seg (f' := (83, [some (.ref 16), some (.int y1), some (.int y2), some (.int (-16))], [(.int y1), (.ref 16)])) (h' := (107, o1821.1, o1821.2, mm_rf rv sp 3 w nw)) 2 rfl ?_
              obtain ⟨o1822, eo1822, e⟩ := mm_bind e
              refine mm_T.call (t := 60) (as := [(.ref 16), (.int y1)]) (f' := (86, [some (.ref 16), some (.int y1), some (.int y2), some (.int (-16))], [])) rfl (mm_T.deep (tX4_readUnit d n rec hrec y1 o1821.1 o1821.2 rv sp 3 w nw (Or.inl rfl) o1822 eo1822) (by omega)) (fun v h hq => ?_)
              obtain ⟨rfl, rfl⟩ := hq
              refine mm_T.br (c := o1822.1 = 0) (a := ((89, [some (.ref 16), some (.int y1), some (.int y2), some (.int (-16))], []), (107, o1822.2.1, o1822.2.2, mm_rf rv sp 3 w nw))) (b := ((91, [some (.ref 16), some (.int y1), some (.int y2), some (.int (-16))], []), (107, o1822.2.1, o1822.2.2, mm_rf rv sp 3 w nw))) rfl (fun h1823 => ?_) (fun h1823 => ?_)
              · rw [if_pos h1823] at e
                refine mm_T.seg (f' := (90, [some (.ref 16), some (.int y1), some (.int y2), some (.int (-16))], [(.int 0)])) (h' := (107, o1822.2.1, o1822.2.2, mm_rf rv sp 3 w nw)) 1 rfl ?_
                cases e
                exact mm_T.ret rfl (kr _ _ _ rfl)
              · rw [if_neg h1823] at e
                refine mm_T.seg (f' := (95, [some (.ref 16), some (.int y1), some (.int y2), some (.int (-16))], [(.ref 3)])) (h' := (107, o1822.2.1, o1822.2.2, mm_rf rv sp 3 w nw)) 2 rfl ?_
                refine mm_T.seg (f' := (99, [some (.ref 16), some (.int y1), some (.int y2), some (.int (-16))], [(.int (-16)), (.ref (3 + 1))])) (h' := (107, o1822.2.1, o1822.2.2, mm_rf rv sp 3 w nw)) 2 rfl ?_
                obtain ⟨o1824, eo1824, e⟩ := mm_bind e
                refine mm_T.call (t := 2) (as := [(.ref (3 + 1)), (.int (-16))]) (f' := (102, [some (.ref 16), some (.int y1), some (.int y2), some (.int (-16))], [])) rfl (tX0_add (d + 8) (-16) (3 + 1) o1822.2.1 o1822.2.2 rv sp 3 w nw (Or.inl rfl) o1824 eo1824) (fun v h hq => ?_)
                obtain ⟨rfl, rfl⟩ := hq
                refine mm_T.seg (f' := (12, [some (.ref 16), some (.int y1), some (.int (y2 + 1)), some (.int (-16))], [])) (h' := (107, o1824, o1822.2.2, mm_rf rv sp 3 w nw)) 2 rfl ?_
                refine mm_T.mask [true, true, true, false] ?_
                exact ih y1 (y2 + 1) o1824 o1822.2.2 rv sp 3 w nw (Or.inl rfl) out e kr ke
          · rw [if_neg h1814] at e
            refine mm_T.seg (f' := (78, [some (.ref 16), some (.int y1), some (.int y2), some (.int (-15))], [(.ref 16)])) (h' := (107, I, J, mm_rf rv sp 3 w nw)) 4 rfl ?_
            obtain ⟨o1825, eo1825, e⟩ := mm_bind e
            refine mm_T.call (t := 34) (as := [(.ref 16)]) (f' := (81, [some (.ref 16), some (.int y1), some (.int y2), some (.int (-15))], [])) rfl (tX4_advance (d + 4) n I J rv sp 3 w nw o1825 eo1825) (fun v h hq => ?_)
            obtain ⟨rfl, rfl⟩ := hq
            refine mm_T.seg (f' := (83, [some (.ref 16), some (.int y1), some (.int y2), some (.int (-15))], [(.int y1), (.ref 16)])) (h' := (107, o1825.1, o1825.2, mm_rf rv sp 3 w nw)) 2 rfl ?_
            obtain ⟨o1826, eo1826, e⟩ := mm_bind e
            refine mm_T.call (t := 60) (as := [(.ref 16), (.int y1)]) (f' := (86, [some (.ref 16), some (.int y1), some (.int y2), some (.int (-15))], [])) rfl (mm_T.deep (tX4_readUnit d n rec hrec y1 o1825.1 o1825.2 rv sp 3 w nw (Or.inl rfl) o1826 eo1826) (by omega)) (fun v h hq => ?_)
            obtain ⟨rfl, rfl⟩ := hq
            refine mm_T.br (c := o1826.1 = 0) (a := ((89, [some (.ref 16), some (.int y1), some (.int y2), some (.int (-15))], []), (107, o1826.2.1, o1826.2.2, mm_rf rv sp 3 w nw))) (b := ((91, [some (.ref 16), some (.int y1), some (.int y2), some (.int (-15))], []), (107, o1826.2.1, o1826.2.2, mm_rf rv sp 3 w nw))) rfl (fun h1827 => ?_) (fun h1827 => ?_)
            · rw [if_pos h1827] at e
              refine mm_T.seg (f' := (90, [some (.ref 16), some (.int y1), some (.int y2), some (.int (-15))], [(.int 0)])) (h' := (107, o1826.2.1, o1826.2.2, mm_rf rv sp 3 w nw)) 1 rfl ?_
              cases e
              exact mm_T.ret rfl (kr _ _ _ rfl)
            · rw [if_neg h1827] at e
              refine mm_T.seg (f' := (95, [some (.ref 16), some (.int y1), some (.int y2), some (.int (-15))], [(.ref 3)])) (h' := (107, o1826.2.1, o1826.2.2, mm_rf rv sp 3 w nw)) 2 rfl ?_
              refine mm_T.seg (f' := (99, [some (.ref 16), some (.int y1), some (.int y2), some (.int (-15))], [(.int (-15)), (.ref (3 + 1))])) (h' := (107, o1826.2.1, o1826.2.2, mm_rf rv sp 3 w nw)) 2 rfl ?_
              obtain ⟨o1828, eo1828, e⟩ := mm_bind e
              refine mm_T.call (t := 2) (as := [(.ref (3 + 1)), (.int (-15))]) (f' := (102, [some (.ref 16), some (.int y1), some (.int y2), some (.int (-15))], [])) rfl (tX0_add (d + 8) (-15) (3 + 1) o1826.2.1 o1826.2.2 rv sp 3 w nw (Or.inl rfl) o1828 eo1828) (fun v h hq => ?_)
              obtain ⟨rfl, rfl⟩ := hq
              refine mm_T.seg (f' := (12, [some (.ref 16), some (.int y1), some (.int (y2 + 1)), some (.int (-15))], [])) (h' := (107, o1828, o1826.2.2, mm_rf rv sp 3 w nw)) 2 rfl ?_
              refine mm_T.mask [true, true, true, false] ?_
              exact ih y1 (y2 + 1) o1828 o1826.2.2 rv sp 3 w nw (Or.inl rfl) out e kr ke
      · rw [if_neg h1774] at e
        cases e
        refine mm_T.mask [false, false, false, false] ?_
        exact ke _ _ _ rfl
    · rw [fX4_readTerm_L12] at e
      refine mm_T.seg (f' := (16, [some (.ref 16), some (.int y1), some (.int y2), none], [(.int 1600), (.int y2)])) (h' := (107, I, J, mm_rf rv sp 19 w nw)) 2 rfl ?_
      refine mm_T.br (c := y2 < 1600) (a := ((19, [some (.ref 16), some (.int y1), some (.int y2), none], []), (107, I, J, mm_rf rv sp 19 w nw))) (b := ((108, [some (.ref 16), some (.int y1), some (.int y2), none], []), (107, I, J, mm_rf rv sp 19 w nw))) rfl (fun h1774 => ?_) (fun h1774 => ?_)
      · rw [if_pos h1774] at e
        refine mm_T.seg (f' := (22, [some (.ref 16), some (.int y1), some (.int y2), none], [(.int 42), (.ref 16)])) (h' := (107, I, J, mm_rf rv sp 19 w nw)) 2 rfl ?_
        obtain ⟨o1775, eo1775, e⟩ := mm_bind e
        refine mm_T.call (t := 39) (as := [(.ref 16), (.int 42)]) (f' := (25, [some (.ref 16), some (.int y1), some (.int y2), none], [])) rfl (tX4_isSign (d + 7) 42 I J rv sp 19 w nw o1775 eo1775) (fun v h hq => ?_)
        obtain ⟨rfl, rfl⟩ := hq
        refine mm_T.br (c := o1775 = 0) (a := ((28, [some (.ref 16), some (.int y1), some (.int y2), none], []), (107, I, J, mm_rf rv sp 19 w nw))) (b := ((46, [some (.ref 16), some (.int y1), some (.int y2), none], []), (107, I, J, mm_rf rv sp 19 w nw))) rfl (fun h1776 => ?_) (fun h1776 => ?_)
        · rw [if_pos h1776] at e
          refine mm_T.seg (f' := (31, [some (.ref 16), some (.int y1), some (.int y2), none], [(.int 47), (.ref 16)])) (h' := (107, I, J, mm_rf rv sp 19 w nw)) 2 rfl ?_
          obtain ⟨o1777, eo1777, e⟩ := mm_bind e
          refine mm_T.call (t := 39) (as := [(.ref 16), (.int 47)]) (f' := (34, [some (.ref 16), some (.int y1), some (.int y2), none], [])) rfl (tX4_isSign (d + 7) 47 I J rv sp 19 w nw o1777 eo1777) (fun v h hq => ?_)
          obtain ⟨rfl, rfl⟩ := hq
          refine mm_T.br (c := o1777 = 0) (a := ((37, [some (.ref 16), some (.int y1), some (.int y2), none], []), (107, I, J, mm_rf rv sp 19 w nw))) (b := ((46, [some (.ref 16), some (.int y1), some (.int y2), none], []), (107, I, J, mm_rf rv sp 19 w nw))) rfl (fun h1778 => ?_) (fun h1778 => ?_)
          · rw [if_pos h1778] at e
            refine mm_T.seg (f' := (40, [some (.ref 16), some (.int y1), some (.int y2), none], [(.int 37), (.ref 16)])) (h' := (107, I, J, mm_rf rv sp 19 w nw)) 2 rfl ?_
            obtain ⟨o1779, eo1779, e⟩ := mm_bind e
            refine mm_T.call (t := 39) (as := [(.ref 16), (.int 37)]) (f' := (43, [some (.ref 16), some (.int y1), some (.int y2), none], [])) rfl (tX4_isSign (d + 7) 37 I J rv sp 19 w nw o1779 eo1779) (fun v h hq => ?_)
            obtain ⟨rfl, rfl⟩ := hq
            refine mm_T.br (c := o1779 = 0) (a := ((108, [some (.ref 16), some (.int y1), some (.int y2), none], []), (107, I, J, mm_rf rv sp 19 w nw))) (b := ((46, [some (.ref 16), some (.int y1), some (.int y2), none], []), (107, I, J, mm_rf rv sp 19 w nw))) rfl (fun h1780 => ?_) (fun h1780 => ?_)
            · rw [if_pos h1780] at e
              cases e
              refine mm_T.mask [false, false, false, false] ?_
              exact ke _ _ _ rfl
            · rw [if_neg h1780] at e
              refine mm_T.seg (f' := (49, [some (.ref 16), some (.int y1), some (.int y2), none], [(.int 42), (.ref 16)])) (h' := (107, I, J, mm_rf rv sp 19 w nw)) 2 rfl ?_
              obtain ⟨o1781, eo1781, e⟩ := mm_bind e
              refine mm_T.call (t := 39) (as := [(.ref 16), (.int 42)]) (f' := (52, [some (.ref 16), some (.int y1), some (.int y2), none], [])) rfl (tX4_isSign (d + 7) 42 I J rv sp 19 w nw o1781 eo1781) (fun v h hq => ?_)
              obtain ⟨rfl, rfl⟩ := hq
              refine mm_T.br (c := o1781 = 0) (a := ((60, [some (.ref 16), some (.int y1), some (.int y2), none], []), (107, I, J, mm_rf rv sp 19 w nw))) (b := ((55, [some (.ref 16), some (.int y1), some (.int y2), none], []), (107, I, J, mm_rf rv sp 19 w nw))) rfl (fun h1782 => ?_) (fun h1782 => ?_)
              · rw [if_pos h1782] at e
                refine mm_T.seg (f' := (63, [some (.ref 16), some (.int y1), some (.int y2), none], [(.int 47), (.ref 16)])) (h' := (107, I, J, mm_rf rv sp 19 w nw)) 2 rfl ?_
                obtain ⟨o1783, eo1783, e⟩ := mm_bind e
                refine mm_T.call (t := 39) (as := [(.ref 16), (.int 47)]) (f' := (66, [some (.ref 16), some (.int y1), some (.int y2), none], [])) rfl (tX4_isSign (d + 7) 47 I J rv sp 19 w nw o1783 eo1783) (fun v h hq => ?_)
                obtain ⟨rfl, rfl⟩ := hq
                refine mm_T.br (c := o1783 = 0) (a := ((74, [some (.ref 16), some (.int y1), some (.int y2), none], []), (107, I, J, mm_rf rv sp 19 w nw))) (b := ((69, [some (.ref 16), some (.int y1), some (.int y2), none], []), (107, I, J, mm_rf rv sp 19 w nw))) rfl (fun h1784 => ?_) (fun h1784 => ?_)
                · rw [if_pos h1784] at e
                  refine mm_T.seg (f' := (78, [some (.ref 16), some (.int y1), some (.int y2), some (.int (-17))], [(.ref 16)])) (h' := (107, I, J, mm_rf rv sp 19 w nw)) 3 rfl ?_
                  obtain ⟨o1785, eo1785, e⟩ := mm_bind e
                  refine mm_T.call (t := 34) (as := [(.ref 16)]) (f' := (81, [some (.ref 16), some (.int y1), some (.int y2), some (.int (-17))], [])) rfl (tX4_advance (d + 4) n I J rv sp 19 w nw o1785 eo1785) (fun v h hq => ?_)
                  obtain ⟨rfl, rfl⟩ := hq
                  refine mm_T.seg (f' := (83, [some (.ref 16), some (.int y1), some (.int y2), some (.int (-17))], [(.int y1), (.ref 16)])) (h' := (107, o1785.1, o1785.2, mm_rf rv sp 19 w nw)) 2 rfl ?_
                  obtain ⟨o1786, eo1786, e⟩ := mm_bind e
                  refine mm_T.call (t := 60) (as := [(.ref 16), (.int y1)]) (f' := (86, [some (.ref 16), some (.int y1), some (.int y2), some (.int (-17))], [])) rfl (mm_T.deep (tX4_readUnit d n rec hrec y1 o1785.1 o1785.2 rv sp 19 w nw (Or.inr rfl) o1786 eo1786) (by omega)) (fun v h hq => ?_)
                  obtain ⟨rfl, rfl⟩ := hq
                  refine mm_T.br (c := o1786.1 = 0) (a := ((89, [some (.ref 16), some (.int y1), some (.int y2), some (.int (-17))], []), (107, o1786.2.1, o1786.2.2, mm_rf rv sp 19 w nw))) (b := ((91, [some (.ref 16), some (.int y1), some (.int y2), some (.int (-17))], []), (107, o1786.2.1, o1786.2.2, mm_rf rv sp 19 w nw))) rfl (fun h1787 => ?_) (fun h1787 => ?_)
                  · rw [if_pos h1787] at e
                    refine mm_T.seg (f' := (90, [some (.ref 16), some (.int y1), some (.int y2), some (.int (-17))], [(.int 0)])) (h' := (107, o1786.2.1, o1786.2.2, mm_rf rv sp 19 w nw)) 1 rfl ?_
                    cases e
                    exact mm_T.ret rfl (kr _ _ _ rfl)
                  · rw [if_neg h1787] at e
                    refine mm_T.seg (f' := (95, [some (.ref 16), some (.int y1), some (.int y2), some (.int (-17))], [(.ref 19)])) (h' := (107, o1786.2.1, o1786.2.2, mm_rf rv sp 19 w nw)) 2 rfl ?_
                    refine mm_T.seg (f' := (99, [some (.ref 16), some (.int y1), some (.int y2), some (.int (-17))], [(.int (-17)), (.ref (19 + 1))])) (h' := (107, o1786.2.1, o1786.2.2, mm_rf rv sp 19 w nw)) 2 rfl ?_
                    obtain ⟨o1788, eo1788, e⟩ := mm_bind e
                    refine mm_T.call (t := 2) (as := [(.ref (19 + 1)), (.int (-17))]) (f' := (102, [some (.ref 16), some (.int y1), some (.int y2), some (.int (-17))], [])) rfl (tX0_add (d + 8) (-17) (19 + 1) o1786.2.1 o1786.2.2 rv sp 19 w nw (Or.inr rfl) o1788 eo1788) (fun v h hq => ?_)
                    obtain ⟨rfl, rfl⟩ := hq
                    refine mm_T.seg (f' := (12, [some (.ref 16), some (.int y1), some (.int (y2 + 1)), some (.int (-17))], [])) (h' := (107, o1788, o1786.2.2, mm_rf rv sp 19 w nw)) 2 rfl ?_
                    refine mm_T.mask [true, true, true, false] ?_
                    exact ih y1 (y2 + 1) o1788 o1786.2.2 rv sp 19 w nw (Or.inr rfl) out e kr ke
                · rw [if_neg h1784] at e
                  refine mm_T.seg (f' := (78, [some (.ref 16), some (.int y1), some (.int y2), some (.int (-16))], [(.ref 16)])) (h' := (107, I, J, mm_rf rv sp 19 w nw)) 4 rfl ?_
                  obtain ⟨o1789, eo1789, e⟩ := mm_bind e
                  refine mm_T.call (t := 34) (as := [(.ref 16)]) (f' := (81, [some (.ref 16), some (.int y1), some (.int y2), some (.int (-16))], [])) rfl (tX4_advance (d + 4) n I J rv sp 19 w nw o1789 eo1789) (fun v h hq => ?_)
                  obtain ⟨rfl, rfl⟩ := hq
                  refine mm_T.seg (f' := (83, [some (.ref 16), some (.int y1), some (.int y2), some (.int (-16))], [(.int y1), (.ref 16)])) (h' := (107, o1789.1, o1789.2, mm_rf rv sp 19 w nw)) 2 rfl ?_
                  obtain ⟨o1790, eo1790, e⟩ := mm_bind e
                  refine mm_T.call (t := 60) (as := [(.ref 16), (.int y1)]) (f' := (86, [some (.ref 16), some (.int y1), some (.int y2), some (.int (-16))], [])) rfl (mm_T.deep (tX4_readUnit d n rec hrec y1 o1789.1 o1789.2 rv sp 19 w nw (Or.inr rfl) o1790 eo1790) (by omega)) (fun v h hq => ?_)
                  obtain ⟨rfl, rfl⟩ := hq
                  refine mm_T.br (c := o1790.1 = 0) (a := ((89, [some (.ref 16), some (.int y1), some (.int y2), some (.int (-16))], []), (107, o1790.2.1, o1790.2.2, mm_rf rv sp 19 w nw))) (b := ((91, [some (.ref 16), some (.int y1), some (.int y2), some (.int (-16))], []), (107, o1790.2.1, o1790.2.2, mm_rf rv sp 19 w nw))) rfl (fun h1791 => ?_) (fun h1791 => ?_)
                  · rw [if_pos h1791] at e
                    refine mm_T.seg (f' := (90, [some (.ref 16), some (.int y1), some (.int y2), some (.int (-16))], [(.int 0)])) (h' := (107, o1790.2.1, o1790.2.2, mm_rf rv sp 19 w nw)) 1 rfl ?_
                    cases e
                    exact mm_T.ret rfl (kr _ _ _ rfl)
                  · rw [if_neg h1791] at e
                    refine mm_T.seg (f' := (95, [some (.ref 16), some (.int y1), some (.int y2), some (.int (-16))], [(.ref 19)])) (h' := (107, o1790.2.1, o1790.2.2, mm_rf rv sp 19 w nw)) 2 rfl ?_
                    refine mm_T.seg (f' := (99, [some (.ref 16), some (.int y1), some (.int y2), some (.int (-16))], [(.int (-16)), (.ref (19 + 1))])) (h' := (107, o1790.2.1, o1790.2.2, mm_rf rv sp 19 w nw)) 2 rfl ?_
                    obtain ⟨o1792, eo1792, e⟩ := mm_bind e
                    refine mm_T.call (t := 2) (as := [(.ref (19 + 1)), (.int (-16))]) (f' := (102, [some (.ref 16), some (.int y1), some (.int y2), some (.int (-16))], [])) rfl (tX0_add (d + 8) (-16) (19 + 1) o1790.2.1 o1790.2.2 rv sp 19 w nw (Or.inr rfl) o1792 eo1792) (fun v h hq => ?_)
                    obtain ⟨rfl, rfl⟩ := hq
                    refine mm_T.seg (f' := (12, [some (.ref 16), some (.int y1), some (.int (y2 + 1)), some (.int (-16))], [])) (h' := (107, o1792, o1790.2.2, mm_rf rv sp 19 w nw)) 2 rfl ?_
                    refine mm_T.mask [true, true, true, false] ?_
                    exact ih y1 (y2 + 1) o1792 o1790.2.2 rv sp 19 w nw (Or.inr rfl) out e kr ke
              · rw [if_neg h1782] at e
                refine mm_T.seg (f' := (78, [some (.ref 16), some (.int y1), some (.int y2), some (.int (-15))], [(.ref 16)])) (h' := (107, I, J, mm_rf rv sp 19 w nw)) 4 rfl ?_
                obtain ⟨o1793, eo1793, e⟩ := mm_bind e
                refine mm_T.call (t := 34) (as := [(.ref 16)]) (f' := (81, [some (.ref 16), some (.int y1), some (.int y2), some (.int (-15))], [])) rfl (tX4_advance (d + 4) n I J rv sp 19 w nw o1793 eo1793) (fun v h hq => ?_)
                obtain ⟨rfl, rfl⟩ := hq
                refine mm_T.seg (f' := (83, [some (.ref 16), some (.int y1), some (.int y2), some (.int (-15))], [(.int y1), (.ref 16)])) (h' := (107, o1793.1, o1793.2, mm_rf rv sp 19 w nw)) 2 rfl ?_
                obtain ⟨o1794, eo1794, e⟩ := mm_bind e
                refine mm_T.call (t := 60) (as := [(.ref 16), (.int y1)]) (f' := (86, [some (.ref 16), some (.int y1), some (.int y2), some (.int (-15))], [])) rfl (mm_T.deep (tX4_readUnit d n rec hrec y1 o1793.1 o1793.2 rv sp 19 w nw (Or.inr rfl) o1794 eo1794) (by omega)) (fun v h hq => ?_)
                obtain ⟨rfl, rfl⟩ := hq
                refine mm_T.br (c := o1794.1 = 0) (a := ((89, [some (.ref 16), some (.int y1), some (.int y2), some (.int (-15))], []), (107, o1794.2.1, o1794.2.2, mm_rf rv sp 19 w nw))) (b := ((91, [some (.ref 16), some (.int y1), some (.int y2), some (.int (-15))], []), (107, o1794.2.1, o1794.2.2, mm_rf rv sp 19 w nw))) rfl (fun h1795 => ?_) (fun h1795 => ?_)
                · rw [if_pos h1795] at e
                  refine mm_T.seg (f' := (90, [some (.ref 16), some (.int y1), some (.int y2), some (.int (-15))], [(.int 0)])) (h' := (107, o1794.2.1, o1794.2.2, mm_rf rv sp 19 w nw)) 1 rfl ?_
                  cases e
                  exact mm_T.ret rfl (kr _ _ _ rfl)
                · rw [if_neg h1795] at e
                  refine mm_T.seg (f' := (95, [some (.ref 16), some (.int y1), some (.int y2), some (.int (-15))], [(.ref 19)])) (h' := (107, o1794.2.1, o1794.2.2, mm_rf rv sp 19 w nw)) 2 rfl ?_
                  refine mm_T.seg (f' := (99, [some (.ref 16), some (.int y1), some (.int y2), some (.int (-15))], [(.int (-15)), (.ref (19 + 1))])) (h' := (107, o1794.2.1, o1794.2.2, mm_rf rv sp 19 w nw)) 2 rfl ?_
                  obtain ⟨o1796, eo1796, e⟩ := mm_bind e
                  refine mm_T.call (t := 2) (as := [(.ref (19 + 1)), (.int (-15))]) (f' := (102, [some (.ref 16), some (.int y1), some (.int y2), some (.int (-15))], [])) rfl (tX0_add (d + 8) (-15) (19 + 1) o1794.2.1 o1794.2.2 rv sp 19 w nw (Or.inr rfl) o1796 eo1796) (fun v h hq => ?_)
                  obtain ⟨rfl, rfl⟩ := hq
                  refine mm_T.seg (f' := (12, [some (.ref 16), some (.int y1), some (.int (y2 + 1)), some (.int (-15))], [])) (h' := (107, o1796, o1794.2.2, mm_rf rv sp 19 w nw)) 2 rfl ?_
                  refine mm_T.mask [true, true, true, false] ?_
                  exact ih y1 (y2 + 1) o1796 o1794.2.2 rv sp 19 w nw (Or.inr rfl) out e kr ke
          · rw [if_neg h1778] at e
            refine mm_T.seg (f' := (49, [some (.ref 16), some (.int y1), some (.int y2), none], [(.int 42), (.ref 16)])) (h' := (107, I, J, mm_rf rv sp 19 w nw)) 2 rfl ?_
            obtain ⟨o1797, eo1797, e⟩ := mm_bind e
            refine mm_T.call (t := 39) (as := [(.ref 16), (.int 42)]) (f' := (52, [some (.ref 16), some (.int y1), some (.int y2), none], [])) rfl (tX4_isSign (d + 7) 42 I J rv sp 19 w nw o1797 eo1797) (fun v h hq => ?_)
            obtain ⟨rfl, rfl⟩ := hq
            refine mm_T.br (c := o1797 = 0) (a := ((60, [some (.ref 16), some (.int y1), some (.int y2), none], []), (107, I, J, mm_rf rv sp 19 w nw))) (b := ((55, [some (.ref 16), some (.int y1), some (.int y2), none], []), (107, I, J, mm_rf rv sp 19 w nw))) rfl (fun h1798 => ?_) (fun h1798 => ?_)
            · rw [if_pos h1798] at e
              refine mm_T.seg (f' := (63, [some (.ref 16), some (.int y1), some (.int y2), none], [(.int 47), (.ref 16)])) (h' := (107, I, J, mm_rf rv sp 19 w nw)) 2 rfl ?_
              obtain ⟨o1799, eo1799, e⟩ := mm_bind e
              refine mm_T.call (t := 39) (as := [(.ref 16), (.int 47)]) (f' := (66, [some (.ref 16), some (.int y1), some (.int y2), none], [])) rfl (tX4_isSign (d + 7) 47 I J rv sp 19 w nw o1799 eo1799) (fun v h hq => ?_)
              obtain ⟨rfl, rfl⟩ := hq
              refine mm_T.br (c := o1799 = 0) (a := ((74, [some (.ref 16), some (.int y1), some (.int y2), none], []), (107, I, J, mm_rf rv sp 19 w nw))) (b := ((69, [some (.ref 16), some (.int y1), some (.int y2), none], []), (107, I, J, mm_rf rv sp 19 w nw))) rfl (fun h1800 => ?_) (fun h1800 => ?_)
              · rw [if_pos h1800] at e
                refine mm_T.seg (f' := (78, [some (.ref 16), some (.int y1), some (.int y2), some (.int (-17))], [(.ref 16)])) (h' := (107, I, J, mm_rf rv sp 19 w nw)) 3 rfl ?_
                obtain ⟨o1801, eo1801, e⟩ := mm_bind e
                refine mm_T.call (t := 34) (as := [(.ref 16)]) (f' := (81, [some (.ref 16), some (.int y1), some (.int y2), some (.int (-17))], [])) rfl (tX4_advance (d + 4) n I J rv sp 19 w nw o1801 eo1801) (fun v h hq => ?_)
                obtain ⟨rfl, rfl⟩ := hq
                refine mm_T.seg (f' := (83, [some (.ref 16), some (.int y1), some (.int y2), some (.int (-17))], [(.int y1), (.ref 16)])) (h' := (107, o1801.1, o1801.2, mm_rf rv sp 19 w nw)) 2 rfl ?_
                obtain ⟨o1802, eo1802, e⟩ := mm_bind e
                refine mm_T.call (t := 60) (as := [(.ref 16), (.int y1)]) (f' := (86, [some (.ref 16), some (.int y1), some (.int y2), some (.int (-17))], [])) rfl (mm_T.deep (tX4_readUnit d n rec hrec y1 o1801.1 o1801.2 rv sp 19 w nw (Or.inr rfl) o1802 eo1802) (by omega)) (fun v h hq => ?_)
                obtain ⟨rfl, rfl⟩ := hq
                refine mm_T.br (c := o1802.1 = 0) (a := ((89, [some (.ref 16), some (.int y1), some (.int y2), some (.int (-17))], []), (107, o1802.2.1, o1802.2.2, mm_rf rv sp 19 w nw))) (b := ((91, [some (.ref 16), some (.int y1), some (.int y2), some (.int (-17))], []), (107, o1802.2.1, o1802.2.2, mm_rf rv sp 19 w nw))) rfl (fun h1803 => ?_) (fun h1803 => ?_)
                · rw [if_pos h1803] at e
                  refine mm_T.seg (f' := (90, [some (.ref 16), some (.int y1), some (.int y2), some (.int (-17))], [(.int 0)])) (h' := (107, o1802.2.1, o1802.2.2, mm_rf rv sp 19 w nw)) 1 rfl ?_
                  cases e
                  exact mm_T.ret rfl (kr _ _ _ rfl)
                · rw [if_neg h1803] at e
                  refine mm_T.seg (f' := (95, [some (.ref 16), some (.int y1), some (.int y2), some (.int (-17))], [(.ref 19)])) (h' := (107, o1802.2.1, o1802.2.2, mm_rf rv sp 19 w nw)) 2 rfl ?_
                  refine mm_T.seg (f' := (99, [some (.ref 16), some (.int y1), some (.int y2), some (.int (-17))], [(.int (-17)), (.ref (19 + 1))])) (h' := (107, o1802.2.1, o1802.2.2, mm_rf rv sp 19 w nw)) 2 rfl ?_
                  obtain ⟨o1804, eo1804, e⟩ := mm_bind e
                  refine mm_T.call (t := 2) (as := [(.ref (19 + 1)), (.int (-17))]) (f' := (102, [some (.ref 16), some (.int y1), some (.int y2), some (.int (-17))], [])) rfl (tX0_add (d + 8) (-17) (19 + 1) o1802.2.1 o1802.2.2 rv sp 19 w nw (Or.inr rfl) o1804 eo1804) (fun v h hq => ?_)
                  obtain ⟨rfl, rfl⟩ := hq
                  refine mm_T.seg (f' := (12, [some (.ref 16), some (.int y1), some (.int (y2 + 1)), some (.int (-17))], [])) (h' := (107, o1804, o1802.2.2, mm_rf rv sp 19 w nw)) 2 rfl ?_
                  refine mm_T.mask [true, true, true, false] ?_
                  exact ih y1 (y2 + 1) o1804 o1802.2.2 rv sp 19 w nw (Or.inr rfl) out e kr ke
              · rw [if_neg h1800] at e
                refine mm_T.seg (f' := (78, [some (.ref 16), some (.int y1), some (.int y2), some (.int (-16))], [(.ref 16)])) (h' := (107, I, J, mm_rf rv sp 19 w nw)) 4 rfl ?_
                obtain ⟨o1805, eo1805, e⟩ := mm_bind e
                refine mm_T.call (t := 34) (as := [(.ref 16)]) (f' := (81, [some (.ref 16), some (.int y1), some (.int y2), some (.int (-16))], [])) rfl (tX4_advance (d + 4) n I J rv sp 19 w nw o1805 eo1805) (fun v h hq => ?_)
                obtain ⟨rfl, rfl⟩ := hq
                refine mm_T.seg (f' := (83, [some (.ref 16), some (.int y1), some (.int y2), some (.int (-16))], [(.int y1), (.ref 16)])) (h' := (107, o1805.1, o1805.2, mm_rf rv sp 19 w nw)) 2 rfl ?_
                obtain ⟨o1806, eo1806, e⟩ := mm_bind e
                refine mm_T.call (t := 60) (as := [(.ref 16), (.int y1)]) (f' := (86, [some (.ref 16), some (.int y1), some (.int y2), some (.int (-16))], [])) rfl (mm_T.deep (tX4_readUnit d n rec hrec y1 o1805.1 o1805.2 rv sp 19 w nw (Or.inr rfl) o1806 eo1806) (by omega)) (fun v h hq => ?_)
                obtain ⟨rfl, rfl⟩ := hq
                refine mm_T.br (c := o1806.1 = 0) (a := ((89, [some (.ref 16), some (.int y1), some (.int y2), some (.int (-16))], []), (107, o1806.2.1, o1806.2.2, mm_rf rv sp 19 w nw))) (b := ((91, [some (.ref 16), some (.int y1), some (.int y2), some (.int (-16))], []), (107, o1806.2.1, o1806.2.2, mm_rf rv sp 19 w nw))) rfl (fun h1807 => ?_) (fun h1807 => ?_)
                · rw [if_pos h1807] at e
                  refine mm_T.seg (f' := (90, [some (.ref 16), some (.int y1), some (.int y2), some (.int (-16))], [(.int 0)])) (h' := (107, o1806.2.1, o1806.2.2, mm_rf rv sp 19 w nw)) 1 rfl ?_
                  cases e
                  exact mm_T.ret rfl (kr _ _ _ rfl)
                · rw [if_neg h1807] at e
                  refine mm_T.seg (f' := (95, [some (.ref 16), some (.int y1), some (.int y2), some (.int (-16))], [(.ref 19)])) (h' := (107, o1806.2.1, o1806.2.2, mm_rf rv sp 19 w nw)) 2 rfl ?_
                  refine mm_T.seg (f' := (99, [some (.ref 16), some (.int y1), some (.int y2), some (.int (-16))], [(.int (-16)), (.ref (19 + 1))])) (h' := (107, o1806.2.1, o1806.2.2, mm_rf rv sp 19 w nw)) 2 rfl ?_
                  obtain ⟨o1808, eo1808, e⟩ := mm_bind e
                  refine mm_T.call (t := 2) (as := [(.ref (19 + 1)), (.int (-16))]) (f' := (102, [some (.ref 16), some (.int y1), some (.int y2), some (.int (-16))], [])) rfl (tX0_add (d + 8) (-16) (19 + 1) o1806.2.1 o1806.2.2 rv sp 19 w nw (Or.inr rfl) o1808 eo1808) (fun v h hq => ?_)
                  obtain ⟨rfl, rfl⟩ := hq
                  refine mm_T.seg (f' := (12, [some (.ref 16), some (.int y1), some (.int (y2 + 1)), some (.int (-16))], [])) (h' := (107, o1808, o1806.2.2, mm_rf rv sp 19 w nw)) 2 rfl ?_
                  refine mm_T.mask [true, true, true, false] ?_
                  exact ih y1 (y2 + 1) o1808 o1806.2.2 rv sp 19 w nw (Or.inr rfl) out e kr ke
            · rw [if_neg h1798] at e
              refine mm_T.seg (f' := (78, [some (.ref 16), some (.int y1), some (.int y2), some (.int (-15))], [(.ref 16)])) (h' := (107, I, J, mm_rf rv sp 19 w nw)) 4 rfl ?_
              obtain ⟨o1809, eo1809, e⟩ := mm_bind e
              refine mm_T.call (t := 34) (as := [(.ref 16)]) (f' := (81, [some (.ref 16), some (.int y1), some (.int y2), some (.int (-15))], [])) rfl (tX4_advance (d + 4) n I J rv sp 19 w nw o1809 eo1809) (fun v h hq => ?_)
              obtain ⟨rfl, rfl⟩ := hq
              refine mm_T.seg (f' := (83, [some (.ref 16), some (.int y1), some (.int y2), some (.int (-15))], [(.int y1), (.ref 16)])) (h' := (107, o1809.1, o1809.2, mm_rf rv sp 19 w nw)) 2 rfl ?_
              obtain ⟨o1810, eo1810, e⟩ := mm_bind e
              refine mm_T.call (t := 60) (as := [(.ref 16), (.int y1)]) (f' := (86, [some (.ref 16), some (.int y1), some (.int y2), some (.int (-15))], [])) rfl (mm_T.deep (tX4_readUnit d n rec hrec y1 o1809.1 o1809.2 rv sp 19 w nw (Or.inr rfl) o1810 eo1810) (by omega)) (fun v h hq => ?_)
              obtain ⟨rfl, rfl⟩ := hq
              refine mm_T.br (c := o1810.1 = 0) (a := ((89, [some (.ref 16), some (.int y1), some (.int y2), some (.int (-15))], []), (107, o1810.2.1, o1810.2.2, mm_rf rv sp 19 w nw))) (b := ((91, [some (.ref 16), some (.int y1), some (.int y2), some (.int (-15))], []), (107, o1810.2.1, o1810.2.2, mm_rf rv sp 19 w nw))) rfl (fun h1811 => ?_) (fun h1811 => ?_)
              · rw [if_pos h1811] at e
                refine mm_T.seg (f' := (90, [some (.ref 16), some (.int y1), some (.int y2), some (.int (-15))], [(.int 0)])) (h' := (107, o1810.2.1, o1810.2.2, mm_rf rv sp 19 w nw)) 1 rfl ?_
                cases e
                exact mm_T.ret rfl (kr _ _ _ rfl)
              · rw [if_neg h1811] at e
                refine mm_T.seg (f' := (95, [some (.ref 16), some (.int y1), some (.int y2), some (.int (-15))], [(.ref 19)])) (h' := (107, o1810.2.1, o1810.2.2, mm_rf rv sp 19 w nw)) 2 rfl ?_
                refine mm_T.seg (f' := (99, [some (.ref 16), some (.int y1), some (.int y2), some (.int (-15))], [(.int (-15)), (.ref (19 + 1))])) (h' := (107, o1810.2.1, o1810.2.2, mm_rf rv sp 19 w nw)) 2 rfl ?_
                obtain ⟨o1812, eo1812, e⟩ := mm_bind e
                refine mm_T.call (t := 2) (as := [(.ref (19 + 1)), (.int (-15))]) (f' := (102, [some (.ref 16), some (.int y1), some (.int y2), some (.int (-15))], [])) rfl (tX0_add (d + 8) (-15) (19 + 1) o1810.2.1 o1810.2.2 rv sp 19 w nw (Or.inr rfl) o1812 eo1812) (fun v h hq => ?_)
                obtain ⟨rfl, rfl⟩ := hq
                refine mm_T.seg (f' := (12, [some (.ref 16), some (.int y1), some (.int (y2 + 1)), some (.int (-15))], [])) (h' := (107, o1812, o1810.2.2, mm_rf rv sp 19 w nw)) 2 rfl ?_
                refine mm_T.mask [true, true, true, false] ?_
                exact ih y1 (y2 + 1) o1812 o1810.2.2 rv sp 19 w nw (Or.inr rfl) out e kr ke
        · rw [if_neg h1776] at e
          refine mm_T.seg (f' := (49, [some (.ref 16), some (.int y1), some (.int y2), none], [(.int 42), (.ref 16)])) (h' := (107, I, J, mm_rf rv sp 19 w nw)) 2 rfl ?_
          obtain ⟨o1813, eo1813, e⟩ := mm_bind e
          refine mm_T.call (t := 39) (as := [(.ref 16), (.int 42)]) (f' := (52, [some (.ref 16), some (.int y1), some (.int y2), none], [])) rfl (tX4_isSign (d + 7) 42 I J rv sp 19 w nw o1813 eo1813) (fun v h hq => ?_)
          obtain ⟨rfl, rfl⟩ := hq
          refine mm_T.br (c := o1813 = 0) (a := ((60, [some (.ref 16), some (.int y1), some (.int y2), none], []), (107, I, J, mm_rf rv sp 19 w nw))) (b := ((55, [some (.ref 16), some (.int y1), some (.int y2), none], []), (107, I, J, mm_rf rv sp 19 w nw))) rfl (fun h1814 => ?_) (fun h1814 => ?_)
          · rw [if_pos h1814] at e
            refine mm_T.seg (f' := (63, [some (.ref 16), some (.int y1), some (.int y2), none], [(.int 47), (.ref 16)])) (h' := (107, I, J, mm_rf rv sp 19 w nw)) 2 rfl ?_
            obtain ⟨o1815, eo1815, e⟩ := mm_bind e
            refine mm_T.call (t := 39) (as := [(.ref 16), (.int 47)]) (f' := (66, [some (.ref 16), some (.int y1), some (.int y2), none], [])) rfl (tX4_isSign (d + 7) 47 I J rv sp 19 w nw o1815 eo1815) (fun v h hq => ?_)
            obtain ⟨rfl, rfl⟩ := hq
            refine mm_T.br (c := o1815 = 0) (a := ((74, [some (.ref 16), some (.int y1), some (.int y2), none], []), (107, I, J, mm_rf rv sp 19 w nw))) (b := ((69, [some (.ref 16), some (.int y1), some (.int y2), none], []), (107, I, J, mm_rf rv sp 19 w nw))) rfl (fun h1816 => ?_) (fun h1816 => ?_)
            · rw [if_pos h1816] at e
              refine mm_T.seg (f' := (78, [some (.ref 16), some (.int y1), some (.int y2), some (.int (-17))], [(.ref 16)])) (h' := (107, I, J, mm_rf rv sp 19 w nw)) 3 rfl ?_
              obtain ⟨o1817, eo1817, e⟩ := mm_bind e
              refine mm_T.call (t := 34) (as := [(.ref 16)]) (f' := (81, [some (.ref 16), some (.int y1), some (.int y2), some (.int (-17))], [])) rfl (tX4_advance (d + 4) n I J rv sp 19 w nw o1817 eo1817) (fun v h hq => ?_)
              obtain ⟨rfl, rfl⟩ := hq
              refine mm_T.seg (f' := (83, [some (.ref 16), some (.int y1), some (.int y2), some (.int (-17))], [(.int y1), (.ref 16)])) (h' := (107, o1817.1, o1817.2, mm_rf rv sp 19 w nw)) 2 rfl ?_
              obtain ⟨o1818, eo1818, e⟩ := mm_bind e
              refine mm_T.call (t := 60) (as := [(.ref 16), (.int y1)]) (f' := (86, [some (.ref 16), some (.int y1), some (.int y2), some (.int (-17))], [])) rfl (mm_T.deep (tX4_readUnit d n rec hrec y1 o1817.1 o1817.2 rv sp 19 w nw (Or.inr rfl) o1818 eo1818) (by omega)) (fun v h hq => ?_)
              obtain ⟨rfl, rfl⟩ := hq
              refine mm_T.br (c := o1818.1 = 0) (a := ((89, [some (.ref 16), some (.int y1), some (.int y2), some (.int (-17))], []), (107, o1818.2.1, o1818.2.2, mm_rf rv sp 19 w nw))) (b := ((91, [some (.ref 16), some (.int y1), some (.int y2), some (.int (-17))], []), (107, o1818.2.1, o1818.2.2, mm_rf rv sp 19 w nw))) rfl (fun h1819 => ?_) (fun h1819 => ?_)
              · rw [if_pos h1819] at e
                refine mm_T.seg (f' := (90, [some (.ref 16), some (.int y1), some (.int y2), some (.int (-17))], [(.int 0)])) (h' := (107, o1818.2.1, o1818.2.2, mm_rf rv sp 19 w nw)) 1 rfl ?_
                cases e
                exact mm_T.ret rfl (kr _ _ _ rfl)
              · rw [if_neg h1819] at e
                refine mm_T.seg (f' := (95, [some (.ref 16), some (.int y1), some (.int y2), some (.int (-17))], [(.ref 19)])) (h' := (107, o1818.2.1, o1818.2.2, mm_rf rv sp 19 w nw)) 2 rfl ?_
                refine mm_T.seg (f' := (99, [some (.ref 16), some (.int y1), some (.int y2), some (.int (-17))], [(.int (-17)), (.ref (19 + 1))])) (h' := (107, o1818.2.1, o1818.2.2, mm_rf rv sp 19 w nw)) 2 rfl ?_
                obtain ⟨o1820, eo1820, e⟩ := mm_bind e
                refine mm_T.call (t := 2) (as := [(.ref (19 + 1)), (.int (-17))]) (f' := (102, [some (.ref 16), some (.int y1), some (.int y2), some (.int (-17))], [])) rfl (tX0_add (d + 8) (-17) (19 + 1) o1818.2.1 o1818.2.2 rv sp 19 w nw (Or.inr rfl) o1820 eo1820) (fun v h hq => ?_)
                obtain ⟨rfl, rfl⟩ := hq
                refine mm_T.seg (f' := (12, [some (.ref 16), some (.int y1), some (.int (y2 + 1)), some (.int (-17))], [])) (h' := (107, o1820, o1818.2.2, mm_rf rv sp 19 w nw)) 2 rfl ?_
                refine mm_T.mask [true, true, true, false] ?_
                exact ih y1 (y2 + 1) o1820 o1818.2.2 rv sp 19 w nw (Or.inr rfl) out e kr ke
            · rw [if_neg h1816] at e
              refine mm_T.seg (f' := (78, [some (.ref 16), some (.int y1), some (.int y2), some (.int (-16))], [(.ref 16)])) (h' := (107, I, J, mm_rf rv sp 19 w nw)) 4 rfl ?_
              obtain ⟨o1821, eo1821, e⟩ := mm_bind e
              refine mm_T.call (t := 34) (as := [(.ref 16)]) (f' := (81, [some (.ref 16), some (.int y1), some (.int y2), some (.int (-16))], [])) rfl (tX4_advance (d + 4) n I J rv sp 19 w nw o1821 eo1821) (fun v h hq => ?_)
              obtain ⟨rfl, rfl⟩ := hq
              refine mm_T.seg (f' := (83, [some (.ref 16), some (.int y1), some (.int y2), some (.int (-16))], [(.int y1), (.ref 16)])) (h' := (107, o1821.1, o1821.2, mm_rf rv sp 19 w nw)) 2 rfl ?_
              obtain ⟨o1822, eo1822, e⟩ := mm_bind e
              refine mm_T.call (t := 60) (as := [(.ref 16), (.int y1)]) (f' := (86, [some (.ref 16), some (.int y1), some (.int y2), some (.int (-16))], [])) rfl (mm_T.deep (tX4_readUnit d n rec hrec y1 o1821.1 o1821.2 rv sp 19 w nw (Or.inr rfl) o1822 eo1822) (by omega)) (fun v h hq => ?_)
              obtain ⟨rfl, rfl⟩ := hq
              refine mm_T.br (c := o1822.1 = 0) (a := ((89, [some (.ref 16), some (.int y1), some (.int y2), some (.int (-16))], []), (107, o1822.2.1, o1822.2.2, mm_rf rv sp 19 w nw))) (b := ((91, [some (.ref 16), some (.int y1), some (.int y2), some (.int (-16))], []), (107, o1822.2.1, o1822.2.2, mm_rf rv sp 19 w nw))) rfl (fun h1823 => ?_) (fun h1823 => ?_)
              · rw [if_pos h1823] at e
                refine mm_T.seg (f' := (90, [some (.ref 16), some (.int y1), some (.int y2), some (.int (-16))], [(.int 0)])) (h' := (107, o1822.2.1, o1822.2.2, mm_rf rv sp 19 w nw)) 1 rfl ?_
                cases e
                exact mm_T.ret rfl (kr _ _ _ rfl)
              · rw [if_neg h1823] at e
                refine mm_T.seg (f' := (95, [some (.ref 16), some (.int y1), some (.int y2), some (.int (-16))], [(.ref 19)])) (h' := (107, o1822.2.1, o1822.2.2, mm_rf rv sp 19 w nw)) 2 rfl ?_
                refine mm_T.seg (f' := (99, [some (.ref 16), some (.int y1), some (.int y2), some (.int (-16))], [(.int (-16)), (.ref (19 + 1))])) (h' := (107, o1822.2.1, o1822.2.2, mm_rf rv sp 19 w nw)) 2 rfl ?_
                obtain ⟨o1824, eo1824, e⟩ := mm_bind e
                refine mm_T.call (t := 2) (as := [(.ref (19 + 1)), (.int (-16))]) (f' := (102, [some (.ref 16), some (.int y1), some (.int y2), some (.int (-16))], [])) rfl (tX0_add (d + 8) (-16) (19 + 1) o1822.2.1 o1822.2.2 rv sp 19 w nw (Or.inr rfl) o1824 eo1824) (fun v h hq => ?_)
                obtain ⟨rfl, rfl⟩ := hq
                refine mm_T.seg (f' := (12, [some (.ref 16), some (.int y1), some (.int (y2 + 1)), some (.int (-16))], [])) (h' := (107, o1824, o1822.2.2, mm_rf rv sp 19 w nw)) 2 rfl ?_
                refine mm_T.mask [true, true, true, false] ?_
                exact ih y1 (y2 + 1) o1824 o1822.2.2 rv sp 19 w nw (Or.inr rfl) out e kr ke
          · rw [if_neg h1814] at e
            refine mm_T.seg (f' := (78, [some (.ref 16), some (.int y1), some (.int y2), some (.int (-15))], [(.ref 16)])) (h' := (107, I, J, mm_rf rv sp 19 w nw)) 4 rfl ?_
            obtain ⟨o1825, eo1825, e⟩ := mm_bind e
            refine mm_T.call (t := 34) (as := [(.ref 16)]) (f' := (81, [some (.ref 16), some (.int y1), some (.int y2), some (.int (-15))], [])) rfl (tX4_advance (d + 4) n I J rv sp 19 w nw o1825 eo1825) (fun v h hq => ?_)
            obtain ⟨rfl, rfl⟩ := hq
            refine mm_T.seg (f' := (83, [some (.ref 16), some (.int y1), some (.int y2), some (.int (-15))], [(.int y1), (.ref 16)])) (h' := (107, o1825.1, o1825.2, mm_rf rv sp 19 w nw)) 2 rfl ?_
            obtain ⟨o1826, eo1826, e⟩ := mm_bind e
            refine mm_T.call (t := 60) (as := [(.ref 16), (.int y1)]) (f' := (86, [some (.ref 16), some (.int y1), some (.int y2), some (.int (-15))], [])) rfl (mm_T.deep (tX4_readUnit d n rec hrec y1 o1825.1 o1825.2 rv sp 19 w nw (Or.inr rfl) o1826 eo1826) (by omega)) (fun v h hq => ?_)
            obtain ⟨rfl, rfl⟩ := hq
            refine mm_T.br (c := o1826.1 = 0) (a := ((89, [some (.ref 16), some (.int y1), some (.int y2), some (.int (-15))], []), (107, o1826.2.1, o1826.2.2, mm_rf rv sp 19 w nw))) (b := ((91, [some (.ref 16), some (.int y1), some (.int y2), some (.int (-15))], []), (107, o1826.2.1, o1826.2.2, mm_rf rv sp 19 w nw))) rfl (fun h1827 => ?_) (fun h1827 => ?_)
            · rw [if_pos h1827] at e
              refine mm_T.seg (f' := (90, [some (.ref 16), some (.int y1), some (.int y2), some (.int (-15))], [(.int 0)])) (h' := (107, o1826.2.1, o1826.2.2, mm_rf rv sp 19 w nw)) 1 rfl ?_
              cases e
              exact mm_T.ret rfl (kr _ _ _ rfl)
            · rw [if_neg h1827] at e
              refine mm_T.seg (f' := (95, [some (.ref 16), some (.int y1), some (.int y2), some (.int (-15))], [(.ref 19)])) (h' := (107, o1826.2.1, o1826.2.2, mm_rf rv sp 19 w nw)) 2 rfl ?_
              refine mm_T.seg (f' := (99, [some (.ref 16), some (.int y1), some (.int y2), some (.int (-15))], [(.int (-15)), (.ref (19 + 1))])) (h' := (107, o1826.2.1, o1826.2.2, mm_rf rv sp 19 w nw)) 2 rfl ?_
              obtain ⟨o1828, eo1828, e⟩ := mm_bind e
              refine mm_T.call (t := 2) (as := [(.ref (19 + 1)), (.int (-15))]) (f' := (102, [some (.ref 16), some (.int y1), some (.int y2), some (.int (-15))], [])) rfl (tX0_add (d + 8) (-15) (19 + 1) o1826.2.1 o1826.2.2 rv sp 19 w nw (Or.inr rfl) o1828 eo1828) (fun v h hq => ?_)
              obtain ⟨rfl, rfl⟩ := hq
              refine mm_T.seg (f' := (12, [some (.ref 16), some (.int y1), some (.int (y2 + 1)), some (.int (-15))], [])) (h' := (107, o1828, o1826.2.2, mm_rf rv sp 19 w nw)) 2 rfl ?_
              refine mm_T.mask [true, true, true, false] ?_
              exact ih y1 (y2 + 1) o1828 o1826.2.2 rv sp 19 w nw (Or.inr rfl) out e kr ke
      · rw [if_neg h1774] at e
        cases e
        refine mm_T.mask [false, false, false, false] ?_
        exact ke _ _ _ rfl
set_option maxRecDepth 100000 in
set_option maxHeartbeats 4000000 in
theorem tX4_readTerm (d n : Nat) (rec : Int32 → (Nat → Nat → Int32) → (Nat → Nat → Int64) → Nat → Option (Int32 × (Nat → Nat → Int32) × (Nat → Nat → Int64))) (hrec : ∀ (x1 : Int32) (I : Nat → Nat → Int32) (J : Nat → Nat → Int64) (rv sp rr w nw : Nat), (rr = 3 ∨ rr = 19) → ∀ (out : Int32 × (Nat → Nat → Int32) × (Nat → Nat → Int64)), rec x1 I J rr = some out → mm_T none d 56 (mm_ent 56 [(.ref 16), (.int x1)]) (107, I, J, mm_rf rv sp rr w nw) (fun v h => v = some (.int out.1) ∧ h = (107, out.2.1, out.2.2, mm_rf rv sp rr w nw))) (x1 : Int32) (I : Nat → Nat → Int32) (J : Nat → Nat → Int64) (rv sp rr w nw : Nat) (hrr : rr = 3 ∨ rr = 19) (out : Int32 × (Nat → Nat → Int32) × (Nat → Nat → Int64)) (e : fX4_readTerm n rec x1 I J rr = some out) : mm_T none (d + 9) 59 (mm_ent 59 [(.ref 16), (.int x1)]) (107, I, J, mm_rf rv sp rr w nw) (fun v h => v = some (.int out.1) ∧ h = (107, out.2.1, out.2.2, mm_rf rv sp rr w nw)) := by
  rcases hrr with rfl | rfl
  · unfold fX4_readTerm at e
    refine mm_T.seg (f' := (2, [some (.ref 16), some (.int x1), none, none], [(.int x1), (.ref 16)])) (h' := (107, I, J, mm_rf rv sp 3 w nw)) 2 rfl ?_
    obtain ⟨o1717, eo1717, e⟩ := mm_bind e
    refine mm_T.call (t := 60) (as := [(.ref 16), (.int x1)]) (f' := (5, [some (.ref 16), some (.int x1), none, none], [])) rfl (mm_T.deep (tX4_readUnit d n rec hrec x1 I J rv sp 3 w nw (Or.inl rfl) o1717 eo1717) (by omega)) (fun v h hq => ?_)
    obtain ⟨rfl, rfl⟩ := hq
    refine mm_T.br (c := o1717.1 = 0) (a := ((8, [some (.ref 16), some (.int x1), none, none], []), (107, o1717.2.1, o1717.2.2, mm_rf rv sp 3 w nw))) (b := ((10, [some (.ref 16), some (.int x1), none, none], []), (107, o1717.2.1, o1717.2.2, mm_rf rv sp 3 w nw))) rfl (fun h1718 => ?_) (fun h1718 => ?_)
    · rw [if_pos h1718] at e
      refine mm_T.seg (f' := (9, [some (.ref 16), some (.int x1), none, none], [(.int 0)])) (h' := (107, o1717.2.1, o1717.2.2, mm_rf rv sp 3 w nw)) 1 rfl ?_
      cases e
      exact mm_T.ret rfl ⟨rfl, rfl⟩
    · rw [if_neg h1718] at e
      refine mm_T.seg (f' := (12, [some (.ref 16), some (.int x1), some (.int 0), none], [])) (h' := (107, o1717.2.1, o1717.2.2, mm_rf rv sp 3 w nw)) 2 rfl ?_
      refine mm_T.mask [true, true, true, false] ?_
      obtain ⟨o1829, eo1829, e⟩ := mm_bind e
      rcases o1829 with ⟨va1830 | vb1830, vs1830_0, vs1830_1⟩
      · cases e
        refine tlX4_readTerm_L12 d _ rec hrec n x1 0 o1717.2.1 o1717.2.2 rv sp 3 w nw (Or.inl rfl) _ eo1829 (fun z z0 z1 hz => ?_) (fun z z0 z1 hz => ?_)
        · cases hz; exact ⟨rfl, rfl⟩
        · cases hz
      · refine tlX4_readTerm_L12 d _ rec hrec n x1 0 o1717.2.1 o1717.2.2 rv sp 3 w nw (Or.inl rfl) (.inr vb1830, vs1830_0, vs1830_1) eo1829 (fun z z0 z1 hz => ?_) (fun z z0 z1 hz => ?_)
        · cases hz
        · cases hz
          refine mm_T.seg (f' := (109, [none, none, none, none], [(.int 1)])) (h' := (107, vs1830_0, vs1830_1, mm_rf rv sp 3 w nw)) 1 rfl ?_
          cases e
          exact mm_T.ret rfl ⟨rfl, rfl⟩
  · unfold fX4_readTerm at e
    refine mm_T.seg (f' := (2, [some (.ref 16), some (.int x1), none, none], [(.int x1), (.ref 16)])) (h' := (107, I, J, mm_rf rv sp 19 w nw)) 2 rfl ?_
    obtain ⟨o1717, eo1717, e⟩ := mm_bind e
    refine mm_T.call (t := 60) (as := [(.ref 16), (.int x1)]) (f' := (5, [some (.ref 16), some (.int x1), none, none], [])) rfl (mm_T.deep (tX4_readUnit d n rec hrec x1 I J rv sp 19 w nw (Or.inr rfl) o1717 eo1717) (by omega)) (fun v h hq => ?_)
    obtain ⟨rfl, rfl⟩ := hq
    refine mm_T.br (c := o1717.1 = 0) (a := ((8, [some (.ref 16), some (.int x1), none, none], []), (107, o1717.2.1, o1717.2.2, mm_rf rv sp 19 w nw))) (b := ((10, [some (.ref 16), some (.int x1), none, none], []), (107, o1717.2.1, o1717.2.2, mm_rf rv sp 19 w nw))) rfl (fun h1718 => ?_) (fun h1718 => ?_)
    · rw [if_pos h1718] at e
      refine mm_T.seg (f' := (9, [some (.ref 16), some (.int x1), none, none], [(.int 0)])) (h' := (107, o1717.2.1, o1717.2.2, mm_rf rv sp 19 w nw)) 1 rfl ?_
      cases e
      exact mm_T.ret rfl ⟨rfl, rfl⟩
    · rw [if_neg h1718] at e
      refine mm_T.seg (f' := (12, [some (.ref 16), some (.int x1), some (.int 0), none], [])) (h' := (107, o1717.2.1, o1717.2.2, mm_rf rv sp 19 w nw)) 2 rfl ?_
      refine mm_T.mask [true, true, true, false] ?_
      obtain ⟨o1829, eo1829, e⟩ := mm_bind e
      rcases o1829 with ⟨va1830 | vb1830, vs1830_0, vs1830_1⟩
      · cases e
        refine tlX4_readTerm_L12 d _ rec hrec n x1 0 o1717.2.1 o1717.2.2 rv sp 19 w nw (Or.inr rfl) _ eo1829 (fun z z0 z1 hz => ?_) (fun z z0 z1 hz => ?_)
        · cases hz; exact ⟨rfl, rfl⟩
        · cases hz
      · refine tlX4_readTerm_L12 d _ rec hrec n x1 0 o1717.2.1 o1717.2.2 rv sp 19 w nw (Or.inr rfl) (.inr vb1830, vs1830_0, vs1830_1) eo1829 (fun z z0 z1 hz => ?_) (fun z z0 z1 hz => ?_)
        · cases hz
        · cases hz
          refine mm_T.seg (f' := (109, [none, none, none, none], [(.int 1)])) (h' := (107, vs1830_0, vs1830_1, mm_rf rv sp 19 w nw)) 1 rfl ?_
          cases e
          exact mm_T.ret rfl ⟨rfl, rfl⟩
