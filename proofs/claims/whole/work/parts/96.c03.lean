set_option maxRecDepth 100000 in
set_option maxHeartbeats 4000000 in
theorem tX5_hasCurrent (d : Nat) (x1 : Int32) (x2 : Int32) (r : Nat) (I : Nat → Nat → Int32) (J : Nat → Nat → Int64) (rv sp rr w nw : Nat) (hr : r = 3 ∨ r = 19) (out : Int32) (e : fX5_hasCurrent x1 x2 r I = out) : mm_T none (d + 1) 67 (mm_ent 67 [(.ref r), (.int x1), (.int x2)]) (107, I, J, mm_rf rv sp rr w nw) (fun v h => v = some (.int out) ∧ h = (107, I, J, mm_rf rv sp rr w nw)) := by
  rcases hr with rfl | rfl
  · unfold fX5_hasCurrent at e
    refine mm_T.seg (f' := (3, [some (.ref 3), some (.int x1), some (.int x2)], [(.int x2), (.int x1), (.ref 3)])) (h' := (107, I, J, mm_rf rv sp rr w nw)) 3 rfl ?_
    obtain ⟨g220, hg220⟩ : ∃ z, fX5_isCell x1 x2 3 I = z := ⟨_, rfl⟩
    try rw [hg220] at e
    refine mm_T.call (t := 66) (as := [(.ref 3), (.int x1), (.int x2)]) (f' := (6, [some (.ref 3), some (.int x1), some (.int x2)], [])) rfl (tX5_isCell (d + 0) x1 x2 3 I J rv sp rr w nw (Or.inl rfl) g220 hg220) (fun v h hq => ?_)
    obtain ⟨rfl, rfl⟩ := hq
    refine mm_T.br (c := g220 = 0) (a := ((29, [some (.ref 3), some (.int x1), some (.int x2)], []), (107, I, J, mm_rf rv sp rr w nw))) (b := ((9, [some (.ref 3), some (.int x1), some (.int x2)], []), (107, I, J, mm_rf rv sp rr w nw))) rfl (fun h1548 => ?_) (fun h1548 => ?_)
    · rw [if_pos h1548] at e
      refine mm_T.seg (f' := (30, [some (.ref 3), some (.int x1), some (.int x2)], [(.int 0)])) (h' := (107, I, J, mm_rf rv sp rr w nw)) 1 rfl ?_
      cases e
      exact mm_T.ret rfl ⟨rfl, rfl⟩
    · rw [if_neg h1548] at e
      refine mm_T.seg (f' := (13, [some (.ref 3), some (.int x1), some (.int x2)], [(.ref (3 + 5))])) (h' := (107, I, J, mm_rf rv sp rr w nw)) 2 rfl ?_
      refine mm_T.seg (f' := (15, [some (.ref 3), some (.int x1), some (.int x2)], [(.int x2), (.int x1), (.ref (3 + 5))])) (h' := (107, I, J, mm_rf rv sp rr w nw)) 2 rfl ?_
      obtain ⟨g221, hg221⟩ : ∃ z, fX5_cell x1 x2 = z := ⟨_, rfl⟩
      try rw [hg221] at e
      refine mm_T.call (t := 65) (as := [(.int x1), (.int x2)]) (f' := (18, [some (.ref 3), some (.int x1), some (.int x2)], [(.ref (3 + 5))])) rfl (tX5_cell (d + 0) x1 x2 I J rv sp rr w nw g221 hg221) (fun v h hq => ?_)
      obtain ⟨rfl, rfl⟩ := hq
      refine mm_T.call (t := 204) (as := [(.ref (3 + 5)), (.int g221)]) (f' := (21, [some (.ref 3), some (.int x1), some (.int x2)], [])) rfl (t_pick _ (3 + 5) 56 g221 I J (mm_rf rv sp rr w nw) rfl rfl) (fun v h hq => ?_)
      obtain ⟨rfl, rfl⟩ := hq
      refine mm_T.seg (f' := (22, [some (.ref 3), some (.int x1), some (.int x2)], [(.int (-1)), (.int (mf_pick I (3 + 5) 56 g221))])) (h' := (107, I, J, mm_rf rv sp rr w nw)) 1 rfl ?_
      refine mm_T.br (c := (mf_pick I (3 + 5) 56 g221) = (-1)) (a := ((29, [some (.ref 3), some (.int x1), some (.int x2)], []), (107, I, J, mm_rf rv sp rr w nw))) (b := ((25, [some (.ref 3), some (.int x1), some (.int x2)], []), (107, I, J, mm_rf rv sp rr w nw))) rfl (fun h1549 => ?_) (fun h1549 => ?_)
      · rw [if_pos h1549] at e
        refine mm_T.seg (f' := (30, [some (.ref 3), some (.int x1), some (.int x2)], [(.int 0)])) (h' := (107, I, J, mm_rf rv sp rr w nw)) 1 rfl ?_
        cases e
        exact mm_T.ret rfl ⟨rfl, rfl⟩
      · rw [if_neg h1549] at e
        refine mm_T.seg (f' := (30, [some (.ref 3), some (.int x1), some (.int x2)], [(.int 1)])) (h' := (107, I, J, mm_rf rv sp rr w nw)) 2 rfl ?_
        cases e
        exact mm_T.ret rfl ⟨rfl, rfl⟩
  · unfold fX5_hasCurrent at e
    refine mm_T.seg (f' := (3, [some (.ref 19), some (.int x1), some (.int x2)], [(.int x2), (.int x1), (.ref 19)])) (h' := (107, I, J, mm_rf rv sp rr w nw)) 3 rfl ?_
    obtain ⟨g220, hg220⟩ : ∃ z, fX5_isCell x1 x2 19 I = z := ⟨_, rfl⟩
    try rw [hg220] at e
    refine mm_T.call (t := 66) (as := [(.ref 19), (.int x1), (.int x2)]) (f' := (6, [some (.ref 19), some (.int x1), some (.int x2)], [])) rfl (tX5_isCell (d + 0) x1 x2 19 I J rv sp rr w nw (Or.inr rfl) g220 hg220) (fun v h hq => ?_)
    obtain ⟨rfl, rfl⟩ := hq
    refine mm_T.br (c := g220 = 0) (a := ((29, [some (.ref 19), some (.int x1), some (.int x2)], []), (107, I, J, mm_rf rv sp rr w nw))) (b := ((9, [some (.ref 19), some (.int x1), some (.int x2)], []), (107, I, J, mm_rf rv sp rr w nw))) rfl (fun h1548 => ?_) (fun h1548 => ?_)
    · rw [if_pos h1548] at e
      refine mm_T.seg (f' := (30, [some (.ref 19), some (.int x1), some (.int x2)], [(.int 0)])) (h' := (107, I, J, mm_rf rv sp rr w nw)) 1 rfl ?_
      cases e
      exact mm_T.ret rfl ⟨rfl, rfl⟩
    · rw [if_neg h1548] at e
      refine mm_T.seg (f' := (13, [some (.ref 19), some (.int x1), some (.int x2)], [(.ref (19 + 5))])) (h' := (107, I, J, mm_rf rv sp rr w nw)) 2 rfl ?_
      refine mm_T.seg (f' := (15, [some (.ref 19), some (.int x1), some (.int x2)], [(.int x2), (.int x1), (.ref (19 + 5))])) (h' := (107, I, J, mm_rf rv sp rr w nw)) 2 rfl ?_
      obtain ⟨g221, hg221⟩ : ∃ z, fX5_cell x1 x2 = z := ⟨_, rfl⟩
      try rw [hg221] at e
      refine mm_T.call (t := 65) (as := [(.int x1), (.int x2)]) (f' := (18, [some (.ref 19), some (.int x1), some (.int x2)], [(.ref (19 + 5))])) rfl (tX5_cell (d + 0) x1 x2 I J rv sp rr w nw g221 hg221) (fun v h hq => ?_)
      obtain ⟨rfl, rfl⟩ := hq
      refine mm_T.call (t := 204) (as := [(.ref (19 + 5)), (.int g221)]) (f' := (21, [some (.ref 19), some (.int x1), some (.int x2)], [])) rfl (t_pick _ (19 + 5) 56 g221 I J (mm_rf rv sp rr w nw) rfl rfl) (fun v h hq => ?_)
      obtain ⟨rfl, rfl⟩ := hq
      refine mm_T.seg (f' := (22, [some (.ref 19), some (.int x1), some (.int x2)], [(.int (-1)), (.int (mf_pick I (19 + 5) 56 g221))])) (h' := (107, I, J, mm_rf rv sp rr w nw)) 1 rfl ?_
      refine mm_T.br (c := (mf_pick I (19 + 5) 56 g221) = (-1)) (a := ((29, [some (.ref 19), some (.int x1), some (.int x2)], []), (107, I, J, mm_rf rv sp rr w nw))) (b := ((25, [some (.ref 19), some (.int x1), some (.int x2)], []), (107, I, J, mm_rf rv sp rr w nw))) rfl (fun h1549 => ?_) (fun h1549 => ?_)
      · rw [if_pos h1549] at e
        refine mm_T.seg (f' := (30, [some (.ref 19), some (.int x1), some (.int x2)], [(.int 0)])) (h' := (107, I, J, mm_rf rv sp rr w nw)) 1 rfl ?_
        cases e
        exact mm_T.ret rfl ⟨rfl, rfl⟩
      · rw [if_neg h1549] at e
        refine mm_T.seg (f' := (30, [some (.ref 19), some (.int x1), some (.int x2)], [(.int 1)])) (h' := (107, I, J, mm_rf rv sp rr w nw)) 2 rfl ?_
        cases e
        exact mm_T.ret rfl ⟨rfl, rfl⟩
set_option maxRecDepth 100000 in
set_option maxHeartbeats 4000000 in
theorem tX5_addCurrent (d : Nat) (x1 : Int32) (x2 : Int32) (x3 : Int32) (r : Nat) (I : Nat → Nat → Int32) (J : Nat → Nat → Int64) (rv sp rr w nw : Nat) (hr : r = 3 ∨ r = 19) (out : (Nat → Nat → Int32)) (e : fX5_addCurrent x1 x2 x3 r I = out) : mm_T none (d + 1) 70 (mm_ent 70 [(.ref r), (.int x1), (.int x2), (.int x3)]) (107, I, J, mm_rf rv sp rr w nw) (fun v h => v = none ∧ h = (107, out, J, mm_rf rv sp rr w nw)) := by
  rcases hr with rfl | rfl
  · unfold fX5_addCurrent at e
    refine mm_T.seg (f' := (4, [some (.ref 3), some (.int x1), some (.int x2), some (.int x3)], [(.ref (3 + 5))])) (h' := (107, I, J, mm_rf rv sp rr w nw)) 2 rfl ?_
    refine mm_T.seg (f' := (6, [some (.ref 3), some (.int x1), some (.int x2), some (.int x3)], [(.int x3), (.int x2), (.ref (3 + 5))])) (h' := (107, I, J, mm_rf rv sp rr w nw)) 2 rfl ?_
    obtain ⟨g223, hg223⟩ : ∃ z, fX5_cell x2 x3 = z := ⟨_, rfl⟩
    try rw [hg223] at e
    refine mm_T.call (t := 65) (as := [(.int x2), (.int x3)]) (f' := (9, [some (.ref 3), some (.int x1), some (.int x2), some (.int x3)], [(.ref (3 + 5))])) rfl (tX5_cell (d + 0) x2 x3 I J rv sp rr w nw g223 hg223) (fun v h hq => ?_)
    obtain ⟨rfl, rfl⟩ := hq
    refine mm_T.seg (f' := (10, [some (.ref 3), some (.int x1), some (.int x2), some (.int x3)], [(.int x1), (.int g223), (.ref (3 + 5))])) (h' := (107, I, J, mm_rf rv sp rr w nw)) 1 rfl ?_
    refine mm_T.call (t := 205) (as := [(.ref (3 + 5)), (.int g223), (.int x1)]) (f' := (13, [some (.ref 3), some (.int x1), some (.int x2), some (.int x3)], [])) rfl (t_put _ (3 + 5) 56 g223 x1 I J (mm_rf rv sp rr w nw) rfl rfl) (fun v h hq => ?_)
    obtain ⟨rfl, rfl⟩ := hq
    refine mm_T.seg (f' := (23, [some (.ref 3), some (.int x1), some (.int x2), some (.int x3)], [])) (h' := (107, (mm_up (mf_put I (3 + 5) 56 g223 x1) 3 2 (((mf_put I (3 + 5) 56 g223 x1) 3 2) + 1)), J, mm_rf rv sp rr w nw)) 6 rfl ?_
    cases e
    exact mm_T.ret rfl ⟨rfl, rfl⟩
  · unfold fX5_addCurrent at e
    refine mm_T.seg (f' := (4, [some (.ref 19), some (.int x1), some (.int x2), some (.int x3)], [(.ref (19 + 5))])) (h' := (107, I, J, mm_rf rv sp rr w nw)) 2 rfl ?_
    refine mm_T.seg (f' := (6, [some (.ref 19), some (.int x1), some (.int x2), some (.int x3)], [(.int x3), (.int x2), (.ref (19 + 5))])) (h' := (107, I, J, mm_rf rv sp rr w nw)) 2 rfl ?_
    obtain ⟨g223, hg223⟩ : ∃ z, fX5_cell x2 x3 = z := ⟨_, rfl⟩
    try rw [hg223] at e
    refine mm_T.call (t := 65) (as := [(.int x2), (.int x3)]) (f' := (9, [some (.ref 19), some (.int x1), some (.int x2), some (.int x3)], [(.ref (19 + 5))])) rfl (tX5_cell (d + 0) x2 x3 I J rv sp rr w nw g223 hg223) (fun v h hq => ?_)
    obtain ⟨rfl, rfl⟩ := hq
    refine mm_T.seg (f' := (10, [some (.ref 19), some (.int x1), some (.int x2), some (.int x3)], [(.int x1), (.int g223), (.ref (19 + 5))])) (h' := (107, I, J, mm_rf rv sp rr w nw)) 1 rfl ?_
    refine mm_T.call (t := 205) (as := [(.ref (19 + 5)), (.int g223), (.int x1)]) (f' := (13, [some (.ref 19), some (.int x1), some (.int x2), some (.int x3)], [])) rfl (t_put _ (19 + 5) 56 g223 x1 I J (mm_rf rv sp rr w nw) rfl rfl) (fun v h hq => ?_)
    obtain ⟨rfl, rfl⟩ := hq
    refine mm_T.seg (f' := (23, [some (.ref 19), some (.int x1), some (.int x2), some (.int x3)], [])) (h' := (107, (mm_up (mf_put I (19 + 5) 56 g223 x1) 19 2 (((mf_put I (19 + 5) 56 g223 x1) 19 2) + 1)), J, mm_rf rv sp rr w nw)) 6 rfl ?_
    cases e
    exact mm_T.ret rfl ⟨rfl, rfl⟩
set_option maxRecDepth 100000 in
set_option maxHeartbeats 4000000 in
theorem tX4_readCurrent (d n : Nat) (I : Nat → Nat → Int32) (J : Nat → Nat → Int64) (rv sp rr w nw : Nat) (hrr : rr = 3 ∨ rr = 19) (out : Int32 × (Nat → Nat → Int32) × (Nat → Nat → Int64)) (e : fX4_readCurrent n I J rr = some out) : mm_T none (d + 6) 47 (mm_ent 47 [(.ref 16)]) (107, I, J, mm_rf rv sp rr w nw) (fun v h => v = some (.int out.1) ∧ h = (107, out.2.1, out.2.2, mm_rf rv sp rr w nw)) := by
  rcases hrr with rfl | rfl
  · unfold fX4_readCurrent at e
    refine mm_T.seg (f' := (4, [some (.ref 16), none, none], [(.int 7), (.int 0), (.ref 16)])) (h' := (107, I, J, mm_rf rv sp 3 w nw)) 3 rfl ?_
    obtain ⟨o1540, eo1540, e⟩ := mm_bind e
    refine mm_T.call (t := 43) (as := [(.ref 16), (.int 0), (.int 7)]) (f' := (7, [some (.ref 16), none, none], [])) rfl (tX4_passNumber (d + 0) n 0 7 I J rv sp 3 w nw o1540 eo1540) (fun v h hq => ?_)
    obtain ⟨rfl, rfl⟩ := hq
    refine mm_T.seg (f' := (10, [some (.ref 16), some (.int o1540.1), none], [(.int (-1)), (.int o1540.1)])) (h' := (107, o1540.2.1, o1540.2.2, mm_rf rv sp 3 w nw)) 3 rfl ?_
    refine mm_T.br (c := o1540.1 = (-1)) (a := ((22, [some (.ref 16), some (.int o1540.1), none], []), (107, o1540.2.1, o1540.2.2, mm_rf rv sp 3 w nw))) (b := ((13, [some (.ref 16), some (.int o1540.1), none], []), (107, o1540.2.1, o1540.2.2, mm_rf rv sp 3 w nw))) rfl (fun h1541 => ?_) (fun h1541 => ?_)
    · rw [if_pos h1541] at e
      refine mm_T.seg (f' := (23, [some (.ref 16), some (.int o1540.1), none], [(.int 0)])) (h' := (107, o1540.2.1, o1540.2.2, mm_rf rv sp 3 w nw)) 1 rfl ?_
      cases e
      exact mm_T.ret rfl ⟨rfl, rfl⟩
    · rw [if_neg h1541] at e
      refine mm_T.seg (f' := (16, [some (.ref 16), some (.int o1540.1), none], [(.int 9), (.ref 16)])) (h' := (107, o1540.2.1, o1540.2.2, mm_rf rv sp 3 w nw)) 2 rfl ?_
      obtain ⟨o1542, eo1542, e⟩ := mm_bind e
      refine mm_T.call (t := 40) (as := [(.ref 16), (.int 9)]) (f' := (19, [some (.ref 16), some (.int o1540.1), none], [])) rfl (tX4_passWord (d + 0) n 9 o1540.2.1 o1540.2.2 rv sp 3 w nw o1542 eo1542) (fun v h hq => ?_)
      obtain ⟨rfl, rfl⟩ := hq
      refine mm_T.br (c := o1542.1 = 0) (a := ((22, [some (.ref 16), some (.int o1540.1), none], []), (107, o1542.2.1, o1542.2.2, mm_rf rv sp 3 w nw))) (b := ((24, [some (.ref 16), some (.int o1540.1), none], []), (107, o1542.2.1, o1542.2.2, mm_rf rv sp 3 w nw))) rfl (fun h1543 => ?_) (fun h1543 => ?_)
      · rw [if_pos h1543] at e
        refine mm_T.seg (f' := (23, [some (.ref 16), some (.int o1540.1), none], [(.int 0)])) (h' := (107, o1542.2.1, o1542.2.2, mm_rf rv sp 3 w nw)) 1 rfl ?_
        cases e
        exact mm_T.ret rfl ⟨rfl, rfl⟩
      · rw [if_neg h1543] at e
        refine mm_T.seg (f' := (30, [some (.ref 16), some (.int o1540.1), none], [(.ref 3), (.int 0), (.ref 16)])) (h' := (107, o1542.2.1, o1542.2.2, mm_rf rv sp 3 w nw)) 4 rfl ?_
        refine mm_T.seg (f' := (35, [some (.ref 16), some (.int o1540.1), none], [(.int ((o1542.2.1 3 0) - 1)), (.int 0), (.ref 16)])) (h' := (107, o1542.2.1, o1542.2.2, mm_rf rv sp 3 w nw)) 3 rfl ?_
        obtain ⟨o1544, eo1544, e⟩ := mm_bind e
        refine mm_T.call (t := 43) (as := [(.ref 16), (.int 0), (.int ((o1542.2.1 3 0) - 1))]) (f' := (38, [some (.ref 16), some (.int o1540.1), none], [])) rfl (tX4_passNumber (d + 0) n 0 ((o1542.2.1 3 0) - 1) o1542.2.1 o1542.2.2 rv sp 3 w nw o1544 eo1544) (fun v h hq => ?_)
        obtain ⟨rfl, rfl⟩ := hq
        refine mm_T.seg (f' := (41, [some (.ref 16), some (.int o1540.1), some (.int o1544.1)], [(.int (-1)), (.int o1544.1)])) (h' := (107, o1544.2.1, o1544.2.2, mm_rf rv sp 3 w nw)) 3 rfl ?_
        refine mm_T.br (c := o1544.1 = (-1)) (a := ((61, [some (.ref 16), some (.int o1540.1), some (.int o1544.1)], []), (107, o1544.2.1, o1544.2.2, mm_rf rv sp 3 w nw))) (b := ((44, [some (.ref 16), some (.int o1540.1), some (.int o1544.1)], []), (107, o1544.2.1, o1544.2.2, mm_rf rv sp 3 w nw))) rfl (fun h1545 => ?_) (fun h1545 => ?_)
        · rw [if_pos h1545] at e
          refine mm_T.seg (f' := (62, [some (.ref 16), some (.int o1540.1), some (.int o1544.1)], [(.int 0)])) (h' := (107, o1544.2.1, o1544.2.2, mm_rf rv sp 3 w nw)) 1 rfl ?_
          cases e
          exact mm_T.ret rfl ⟨rfl, rfl⟩
        · rw [if_neg h1545] at e
          refine mm_T.seg (f' := (50, [some (.ref 16), some (.int o1540.1), some (.int o1544.1)], [(.ref 3), (.int 0), (.ref 16)])) (h' := (107, o1544.2.1, o1544.2.2, mm_rf rv sp 3 w nw)) 4 rfl ?_
          refine mm_T.seg (f' := (55, [some (.ref 16), some (.int o1540.1), some (.int o1544.1)], [(.int ((o1544.2.1 3 1) - 1)), (.int 0), (.ref 16)])) (h' := (107, o1544.2.1, o1544.2.2, mm_rf rv sp 3 w nw)) 3 rfl ?_
          obtain ⟨o1546, eo1546, e⟩ := mm_bind e
          refine mm_T.call (t := 42) (as := [(.ref 16), (.int 0), (.int ((o1544.2.1 3 1) - 1))]) (f' := (58, [some (.ref 16), some (.int o1540.1), some (.int o1544.1)], [])) rfl (tX4_isNumber (d + 4) 0 ((o1544.2.1 3 1) - 1) o1544.2.1 o1544.2.2 rv sp 3 w nw o1546 eo1546) (fun v h hq => ?_)
          obtain ⟨rfl, rfl⟩ := hq
          refine mm_T.br (c := o1546.1 = 0) (a := ((61, [some (.ref 16), some (.int o1540.1), some (.int o1544.1)], []), (107, o1546.2, o1544.2.2, mm_rf rv sp 3 w nw))) (b := ((63, [some (.ref 16), some (.int o1540.1), some (.int o1544.1)], []), (107, o1546.2, o1544.2.2, mm_rf rv sp 3 w nw))) rfl (fun h1547 => ?_) (fun h1547 => ?_)
          · rw [if_pos h1547] at e
            refine mm_T.seg (f' := (62, [some (.ref 16), some (.int o1540.1), some (.int o1544.1)], [(.int 0)])) (h' := (107, o1546.2, o1544.2.2, mm_rf rv sp 3 w nw)) 1 rfl ?_
            cases e
            exact mm_T.ret rfl ⟨rfl, rfl⟩
          · rw [if_neg h1547] at e
            refine mm_T.seg (f' := (67, [some (.ref 16), some (.int o1540.1), some (.int o1544.1)], [(.ref 3)])) (h' := (107, o1546.2, o1544.2.2, mm_rf rv sp 3 w nw)) 2 rfl ?_
            refine mm_T.seg (f' := (72, [some (.ref 16), some (.int o1540.1), some (.int o1544.1)], [(.int (o1546.2 16 6)), (.int o1544.1), (.ref 3)])) (h' := (107, o1546.2, o1544.2.2, mm_rf rv sp 3 w nw)) 3 rfl ?_
            obtain ⟨g222, hg222⟩ : ∃ z, fX5_hasCurrent o1544.1 (o1546.2 16 6) 3 o1546.2 = z := ⟨_, rfl⟩
            try rw [hg222] at e
            refine mm_T.call (t := 67) (as := [(.ref 3), (.int o1544.1), (.int (o1546.2 16 6))]) (f' := (75, [some (.ref 16), some (.int o1540.1), some (.int o1544.1)], [])) rfl (tX5_hasCurrent (d + 4) o1544.1 (o1546.2 16 6) 3 o1546.2 o1544.2.2 rv sp 3 w nw (Or.inl rfl) g222 hg222) (fun v h hq => ?_)
            obtain ⟨rfl, rfl⟩ := hq
            refine mm_T.br (c := g222 = 0) (a := ((84, [some (.ref 16), some (.int o1540.1), some (.int o1544.1)], []), (107, o1546.2, o1544.2.2, mm_rf rv sp 3 w nw))) (b := ((78, [some (.ref 16), some (.int o1540.1), some (.int o1544.1)], []), (107, o1546.2, o1544.2.2, mm_rf rv sp 3 w nw))) rfl (fun h1550 => ?_) (fun h1550 => ?_)
            · rw [if_pos h1550] at e
              refine mm_T.seg (f' := (88, [some (.ref 16), some (.int o1540.1), some (.int o1544.1)], [(.ref 3)])) (h' := (107, o1546.2, o1544.2.2, mm_rf rv sp 3 w nw)) 2 rfl ?_
              refine mm_T.seg (f' := (94, [some (.ref 16), some (.int o1540.1), some (.int o1544.1)], [(.int (o1546.2 16 6)), (.int o1544.1), (.int o1540.1), (.ref 3)])) (h' := (107, o1546.2, o1544.2.2, mm_rf rv sp 3 w nw)) 4 rfl ?_
              obtain ⟨g224, hg224⟩ : ∃ z, fX5_addCurrent o1540.1 o1544.1 (o1546.2 16 6) 3 o1546.2 = z := ⟨_, rfl⟩
              try rw [hg224] at e
              refine mm_T.call (t := 70) (as := [(.ref 3), (.int o1540.1), (.int o1544.1), (.int (o1546.2 16 6))]) (f' := (97, [some (.ref 16), some (.int o1540.1), some (.int o1544.1)], [])) rfl (tX5_addCurrent (d + 4) o1540.1 o1544.1 (o1546.2 16 6) 3 o1546.2 o1544.2.2 rv sp 3 w nw (Or.inl rfl) g224 hg224) (fun v h hq => ?_)
              obtain ⟨rfl, rfl⟩ := hq
              refine mm_T.seg (f' := (98, [some (.ref 16), some (.int o1540.1), some (.int o1544.1)], [(.ref 16)])) (h' := (107, g224, o1544.2.2, mm_rf rv sp 3 w nw)) 1 rfl ?_
              obtain ⟨o1551, eo1551, e⟩ := mm_bind e
              refine mm_T.call (t := 34) (as := [(.ref 16)]) (f' := (101, [some (.ref 16), some (.int o1540.1), some (.int o1544.1)], [])) rfl (tX4_advance (d + 1) n g224 o1544.2.2 rv sp 3 w nw o1551 eo1551) (fun v h hq => ?_)
              obtain ⟨rfl, rfl⟩ := hq
              refine mm_T.seg (f' := (102, [some (.ref 16), some (.int o1540.1), some (.int o1544.1)], [(.ref 16)])) (h' := (107, o1551.1, o1551.2, mm_rf rv sp 3 w nw)) 1 rfl ?_
              obtain ⟨o1552, eo1552, e⟩ := mm_bind e
              refine mm_T.call (t := 41) (as := [(.ref 16)]) (f' := (105, [some (.ref 16), some (.int o1540.1), some (.int o1544.1)], [])) rfl (tX4_passEndOfLine (d + 0) n o1551.1 o1551.2 rv sp 3 w nw o1552 eo1552) (fun v h hq => ?_)
              obtain ⟨rfl, rfl⟩ := hq
              by_cases h1553 : o1552.1 = 0 ∨ o1552.1 = 1
              case neg => rw [if_neg h1553] at e; cases e
              rw [if_pos h1553] at e
              cases e
              first | exact mm_T.retZ (v := some (.int o1552.1)) rfl h1553 ⟨rfl, rfl⟩ | exact mm_T.retZ (v := some (.int out)) rfl h1553 ⟨rfl, rfl⟩
            · rw [if_neg h1550] at e
              refine mm_T.seg (f' := (80, [some (.ref 16), some (.int o1540.1), some (.int o1544.1)], [(.int 3), (.ref 16)])) (h' := (107, o1546.2, o1544.2.2, mm_rf rv sp 3 w nw)) 2 rfl ?_
              obtain ⟨g225, hg225⟩ : ∃ z, fX4_refuse 3 o1546.2 = z := ⟨_, rfl⟩
              try rw [hg225] at e
              refine mm_T.call (t := 30) (as := [(.ref 16), (.int 3)]) (f' := (83, [some (.ref 16), some (.int o1540.1), some (.int o1544.1)], [])) rfl (tX4_refuse (d + 5) 3 o1546.2 o1544.2.2 rv sp 3 w nw g225 hg225) (fun v h hq => ?_)
              obtain ⟨rfl, rfl⟩ := hq
              by_cases h1554 : g225.1 = 0 ∨ g225.1 = 1
              case neg => rw [if_neg h1554] at e; cases e
              rw [if_pos h1554] at e
              cases e
              first | exact mm_T.retZ (v := some (.int g225.1)) rfl h1554 ⟨rfl, rfl⟩ | exact mm_T.retZ (v := some (.int out)) rfl h1554 ⟨rfl, rfl⟩
  · unfold fX4_readCurrent at e
    refine mm_T.seg (f' := (4, [some (.ref 16), none, none], [(.int 7), (.int 0), (.ref 16)])) (h' := (107, I, J, mm_rf rv sp 19 w nw)) 3 rfl ?_
    obtain ⟨o1540, eo1540, e⟩ := mm_bind e
    refine mm_T.call (t := 43) (as := [(.ref 16), (.int 0), (.int 7)]) (f' := (7, [some (.ref 16), none, none], [])) rfl (tX4_passNumber (d + 0) n 0 7 I J rv sp 19 w nw o1540 eo1540) (fun v h hq => ?_)
    obtain ⟨rfl, rfl⟩ := hq
    refine mm_T.seg (f' := (10, [some (.ref 16), some (.int o1540.1), none], [(.int (-1)), (.int o1540.1)])) (h' := (107, o1540.2.1, o1540.2.2, mm_rf rv sp 19 w nw)) 3 rfl ?_
    refine mm_T.br (c := o1540.1 = (-1)) (a := ((22, [some (.ref 16), some (.int o1540.1), none], []), (107, o1540.2.1, o1540.2.2, mm_rf rv sp 19 w nw))) (b := ((13, [some (.ref 16), some (.int o1540.1), none], []), (107, o1540.2.1, o1540.2.2, mm_rf rv sp 19 w nw))) rfl (fun h1541 => ?_) (fun h1541 => ?_)
    · rw [if_pos h1541] at e
      refine mm_T.seg (f' := (23, [some (.ref 16), some (.int o1540.1), none], [(.int 0)])) (h' := (107, o1540.2.1, o1540.2.2, mm_rf rv sp 19 w nw)) 1 rfl ?_
      cases e
      exact mm_T.ret rfl ⟨rfl, rfl⟩
    · rw [if_neg h1541] at e
      refine mm_T.seg (f' := (16, [some (.ref 16), some (.int o1540.1), none], [(.int 9), (.ref 16)])) (h' := (107, o1540.2.1, o1540.2.2, mm_rf rv sp 19 w nw)) 2 rfl ?_
      obtain ⟨o1542, eo1542, e⟩ := mm_bind e
      refine mm_T.call (t := 40) (as := [(.ref 16), (.int 9)]) (f' := (19, [some (.ref 16), some (.int o1540.1), none], [])) rfl (tX4_passWord (d + 0) n 9 o1540.2.1 o1540.2.2 rv sp 19 w nw o1542 eo1542) (fun v h hq => ?_)
      obtain ⟨rfl, rfl⟩ := hq
      refine mm_T.br (c := o1542.1 = 0) (a := ((22, [some (.ref 16), some (.int o1540.1), none], []), (107, o1542.2.1, o1542.2.2, mm_rf rv sp 19 w nw))) (b := ((24, [some (.ref 16), some (.int o1540.1), none], []), (107, o1542.2.1, o1542.2.2, mm_rf rv sp 19 w nw))) rfl (fun h1543 => ?_) (fun h1543 => ?_)
      · rw [if_pos h1543] at e
        refine mm_T.seg (f' := (23, [some (.ref 16), some (.int o1540.1), none], [(.int 0)])) (h' := (107, o1542.2.1, o1542.2.2, mm_rf rv sp 19 w nw)) 1 rfl ?_
        cases e
        exact mm_T.ret rfl ⟨rfl, rfl⟩
      · rw [if_neg h1543] at e
        refine mm_T.seg (f' := (30, [some (.ref 16), some (.int o1540.1), none], [(.ref 19), (.int 0), (.ref 16)])) (h' := (107, o1542.2.1, o1542.2.2, mm_rf rv sp 19 w nw)) 4 rfl ?_
        refine mm_T.seg (f' := (35, [some (.ref 16), some (.int o1540.1), none], [(.int ((o1542.2.1 19 0) - 1)), (.int 0), (.ref 16)])) (h' := (107, o1542.2.1, o1542.2.2, mm_rf rv sp 19 w nw)) 3 rfl ?_
        obtain ⟨o1544, eo1544, e⟩ := mm_bind e
        refine mm_T.call (t := 43) (as := [(.ref 16), (.int 0), (.int ((o1542.2.1 19 0) - 1))]) (f' := (38, [some (.ref 16), some (.int o1540.1), none], [])) rfl (tX4_passNumber (d + 0) n 0 ((o1542.2.1 19 0) - 1) o1542.2.1 o1542.2.2 rv sp 19 w nw o1544 eo1544) (fun v h hq => ?_)
        obtain ⟨rfl, rfl⟩ := hq
        refine mm_T.seg (f' := (41, [some (.ref 16), some (.int o1540.1), some (.int o1544.1)], [(.int (-1)), (.int o1544.1)])) (h' := (107, o1544.2.1, o1544.2.2, mm_rf rv sp 19 w nw)) 3 rfl ?_
        refine mm_T.br (c := o1544.1 = (-1)) (a := ((61, [some (.ref 16), some (.int o1540.1), some (.int o1544.1)], []), (107, o1544.2.1, o1544.2.2, mm_rf rv sp 19 w nw))) (b := ((44, [some (.ref 16), some (.int o1540.1), some (.int o1544.1)], []), (107, o1544.2.1, o1544.2.2, mm_rf rv sp 19 w nw))) rfl (fun h1545 => ?_) (fun h1545 => ?_)
        · rw [if_pos h1545] at e
          refine mm_T.seg (f' := (62, [some (.ref 16), some (.int o1540.1), some (.int o1544.1)], [(.int 0)])) (h' := (107, o1544.2.1, o1544.2.2, mm_rf rv sp 19 w nw)) 1 rfl ?_
          cases e
          exact mm_T.ret rfl ⟨rfl, rfl⟩
        · rw [if_neg h1545] at e
          refine mm_T.seg (f' := (50, [some (.ref 16), some (.int o1540.1), some (.int o1544.1)], [(.ref 19), (.int 0), (.ref 16)])) (h' := (107, o1544.2.1, o1544.2.2, mm_rf rv sp 19 w nw)) 4 rfl ?_
          refine mm_T.seg (f' := (55, [some (.ref 16), some (.int o1540.1), some (.int o1544.1)], [(.int ((o1544.2.1 19 1) - 1)), (.int 0), (.ref 16)])) (h' := (107, o1544.2.1, o1544.2.2, mm_rf rv sp 19 w nw)) 3 rfl ?_
          obtain ⟨o1546, eo1546, e⟩ := mm_bind e
          refine mm_T.call (t := 42) (as := [(.ref 16), (.int 0), (.int ((o1544.2.1 19 1) - 1))]) (f' := (58, [some (.ref 16), some (.int o1540.1), some (.int o1544.1)], [])) rfl (tX4_isNumber (d + 4) 0 ((o1544.2.1 19 1) - 1) o1544.2.1 o1544.2.2 rv sp 19 w nw o1546 eo1546) (fun v h hq => ?_)
          obtain ⟨rfl, rfl⟩ := hq
          refine mm_T.br (c := o1546.1 = 0) (a := ((61, [some (.ref 16), some (.int o1540.1), some (.int o1544.1)], []), (107, o1546.2, o1544.2.2, mm_rf rv sp 19 w nw))) (b := ((63, [some (.ref 16), some (.int o1540.1), some (.int o1544.1)], []), (107, o1546.2, o1544.2.2, mm_rf rv sp 19 w nw))) rfl (fun h1547 => ?_) (fun h1547 => ?_)
          · rw [if_pos h1547] at e
            refine mm_T.seg (f' := (62, [some (.ref 16), some (.int o1540.1), some (.int o1544.1)], [(.int 0)])) (h' := (107, o1546.2, o1544.2.2, mm_rf rv sp 19 w nw)) 1 rfl ?_
            cases e
            exact mm_T.ret rfl ⟨rfl, rfl⟩
          · rw [if_neg h1547] at e
            refine mm_T.seg (f' := (67, [some (.ref 16), some (.int o1540.1), some (.int o1544.1)], [(.ref 19)])) (h' := (107, o1546.2, o1544.2.2, mm_rf rv sp 19 w nw)) 2 rfl ?_
            refine mm_T.seg (f' := (72, [some (.ref 16), some (.int o1540.1), some (.int o1544.1)], [(.int (o1546.2 16 6)), (.int o1544.1), (.ref 19)])) (h' := (107, o1546.2, o1544.2.2, mm_rf rv sp 19 w nw)) 3 rfl ?_
            obtain ⟨g222, hg222⟩ : ∃ z, fX5_hasCurrent o1544.1 (o1546.2 16 6) 19 o1546.2 = z := ⟨_, rfl⟩
            try rw [hg222] at e
            refine mm_T.call (t := 67) (as := [(.ref 19), (.int o1544.1), (.int (o1546.2 16 6))]) (f' := (75, [some (.ref 16), some (.int o1540.1), some (.int o1544.1)], [])) rfl (tX5_hasCurrent (d + 4) o1544.1 (o1546.2 16 6) 19 o1546.2 o1544.2.2 rv sp 19 w nw (Or.inr rfl) g222 hg222) (fun v h hq => ?_)
            obtain ⟨rfl, rfl⟩ := hq
            refine mm_T.br (c := g222 = 0) (a := ((84, [some (.ref 16), some (.int o1540.1), some (.int o1544.1)], []), (107, o1546.2, o1544.2.2, mm_rf rv sp 19 w nw))) (b := ((78, [some (.ref 16), some (.int o1540.1), some (.int o1544.1)], []), (107, o1546.2, o1544.2.2, mm_rf rv sp 19 w nw))) rfl (fun h1550 => ?_) (fun h1550 => ?_)
            · rw [if_pos h1550] at e
              refine mm_T.seg (f' := (88, [some (.ref 16), some (.int o1540.1), some (.int o1544.1)], [(.ref 19)])) (h' := (107, o1546.2, o1544.2.2, mm_rf rv sp 19 w nw)) 2 rfl ?_
              refine mm_T.seg (f' := (94, [some (.ref 16), some (.int o1540.1), some (.int o1544.1)], [(.int (o1546.2 16 6)), (.int o1544.1), (.int o1540.1), (.ref 19)])) (h' := (107, o1546.2, o1544.2.2, mm_rf rv sp 19 w nw)) 4 rfl ?_
              obtain ⟨g224, hg224⟩ : ∃ z, fX5_addCurrent o1540.1 o1544.1 (o1546.2 16 6) 19 o1546.2 = z := ⟨_, rfl⟩
              try rw [hg224] at e
              refine mm_T.call (t := 70) (as := [(.ref 19), (.int o1540.1), (.int o1544.1), (.int (o1546.2 16 6))]) (f' := (97, [some (.ref 16), some (.int o1540.1), some (.int o1544.1)], [])) rfl (tX5_addCurrent (d + 4) o1540.1 o1544.1 (o1546.2 16 6) 19 o1546.2 o1544.2.2 rv sp 19 w nw (Or.inr rfl) g224 hg224) (fun v h hq => ?_)
              obtain ⟨rfl, rfl⟩ := hq
              refine mm_T.seg (f' := (98, [some (.ref 16), some (.int o1540.1), some (.int o1544.1)], [(.ref 16)])) (h' := (107, g224, o1544.2.2, mm_rf rv sp 19 w nw)) 1 rfl ?_
              obtain ⟨o1551, eo1551, e⟩ := mm_bind e
              refine mm_T.call (t := 34) (as := [(.ref 16)]) (f' := (101, [some (.ref 16), some (.int o1540.1), some (.int o1544.1)], [])) rfl (tX4_advance (d + 1) n g224 o1544.2.2 rv sp 19 w nw o1551 eo1551) (fun v h hq => ?_)
              obtain ⟨rfl, rfl⟩ := hq
              refine mm_T.seg (f' := (102, [some (.ref 16), some (.int o1540.1), some (.int o1544.1)], [(.ref 16)])) (h' := (107, o1551.1, o1551.2, mm_rf rv sp 19 w nw)) 1 rfl ?_
              obtain ⟨o1552, eo1552, e⟩ := mm_bind e
              refine mm_T.call (t := 41) (as := [(.ref 16)]) (f' := (105, [some (.ref 16), some (.int o1540.1), some (.int o1544.1)], [])) rfl (tX4_passEndOfLine (d + 0) n o1551.1 o1551.2 rv sp 19 w nw o1552 eo1552) (fun v h hq => ?_)
              obtain ⟨rfl, rfl⟩ := hq
              by_cases h1553 : o1552.1 = 0 ∨ o1552.1 = 1
              case neg => rw [if_neg h1553] at e; cases e
              rw [if_pos h1553] at e
              cases e
              first | exact mm_T.retZ (v := some (.int o1552.1)) rfl h1553 ⟨rfl, rfl⟩ | exact mm_T.retZ (v := some (.int out)) rfl h1553 ⟨rfl, rfl⟩
            · rw [if_neg h1550] at e
              refine mm_T.seg (f' := (80, [some (.ref 16), some (.int o1540.1), some (.int o1544.1)], [(.int 3), (.ref 16)])) (h' := (107, o1546.2, o1544.2.2, mm_rf rv sp 19 w nw)) 2 rfl ?_
              obtain ⟨g225, hg225⟩ : ∃ z, fX4_refuse 3 o1546.2 = z := ⟨_, rfl⟩
              try rw [hg225] at e
              refine mm_T.call (t := 30) (as := [(.ref 16), (.int 3)]) (f' := (83, [some (.ref 16), some (.int o1540.1), some (.int o1544.1)], [])) rfl (tX4_refuse (d + 5) 3 o1546.2 o1544.2.2 rv sp 19 w nw g225 hg225) (fun v h hq => ?_)
              obtain ⟨rfl, rfl⟩ := hq
              by_cases h1554 : g225.1 = 0 ∨ g225.1 = 1
              case neg => rw [if_neg h1554] at e; cases e
              rw [if_pos h1554] at e
              cases e
              first | exact mm_T.retZ (v := some (.int g225.1)) rfl h1554 ⟨rfl, rfl⟩ | exact mm_T.retZ (v := some (.int out)) rfl h1554 ⟨rfl, rfl⟩
set_option maxRecDepth 100000 in
set_option maxHeartbeats 4000000 in
theorem tX5_addIron (d : Nat) (x1 : Int32) (x2 : Int32) (r : Nat) (I : Nat → Nat → Int32) (J : Nat → Nat → Int64) (rv sp rr w nw : Nat) (hr : r = 3 ∨ r = 19) (out : (Nat → Nat → Int32)) (e : fX5_addIron x1 x2 r I = out) : mm_T none (d + 1) 71 (mm_ent 71 [(.ref r), (.int x1), (.int x2)]) (107, I, J, mm_rf rv sp rr w nw) (fun v h => v = none ∧ h = (107, out, J, mm_rf rv sp rr w nw)) := by
  rcases hr with rfl | rfl
  · unfold fX5_addIron at e
    refine mm_T.seg (f' := (4, [some (.ref 3), some (.int x1), some (.int x2)], [(.ref (3 + 6))])) (h' := (107, I, J, mm_rf rv sp rr w nw)) 2 rfl ?_
    refine mm_T.seg (f' := (6, [some (.ref 3), some (.int x1), some (.int x2)], [(.int x2), (.int x1), (.ref (3 + 6))])) (h' := (107, I, J, mm_rf rv sp rr w nw)) 2 rfl ?_
    obtain ⟨g227, hg227⟩ : ∃ z, fX5_cell x1 x2 = z := ⟨_, rfl⟩
    try rw [hg227] at e
    refine mm_T.call (t := 65) (as := [(.int x1), (.int x2)]) (f' := (9, [some (.ref 3), some (.int x1), some (.int x2)], [(.ref (3 + 6))])) rfl (tX5_cell (d + 0) x1 x2 I J rv sp rr w nw g227 hg227) (fun v h hq => ?_)
    obtain ⟨rfl, rfl⟩ := hq
    refine mm_T.seg (f' := (10, [some (.ref 3), some (.int x1), some (.int x2)], [(.int 1), (.int g227), (.ref (3 + 6))])) (h' := (107, I, J, mm_rf rv sp rr w nw)) 1 rfl ?_
    refine mm_T.call (t := 205) (as := [(.ref (3 + 6)), (.int g227), (.int 1)]) (f' := (13, [some (.ref 3), some (.int x1), some (.int x2)], [])) rfl (t_put _ (3 + 6) 56 g227 1 I J (mm_rf rv sp rr w nw) rfl rfl) (fun v h hq => ?_)
    obtain ⟨rfl, rfl⟩ := hq
    refine mm_T.seg (f' := (23, [some (.ref 3), some (.int x1), some (.int x2)], [])) (h' := (107, (mm_up (mf_put I (3 + 6) 56 g227 1) 3 3 (((mf_put I (3 + 6) 56 g227 1) 3 3) + 1)), J, mm_rf rv sp rr w nw)) 6 rfl ?_
    cases e
    exact mm_T.ret rfl ⟨rfl, rfl⟩
  · unfold fX5_addIron at e
    refine mm_T.seg (f' := (4, [some (.ref 19), some (.int x1), some (.int x2)], [(.ref (19 + 6))])) (h' := (107, I, J, mm_rf rv sp rr w nw)) 2 rfl ?_
    refine mm_T.seg (f' := (6, [some (.ref 19), some (.int x1), some (.int x2)], [(.int x2), (.int x1), (.ref (19 + 6))])) (h' := (107, I, J, mm_rf rv sp rr w nw)) 2 rfl ?_
    obtain ⟨g227, hg227⟩ : ∃ z, fX5_cell x1 x2 = z := ⟨_, rfl⟩
    try rw [hg227] at e
    refine mm_T.call (t := 65) (as := [(.int x1), (.int x2)]) (f' := (9, [some (.ref 19), some (.int x1), some (.int x2)], [(.ref (19 + 6))])) rfl (tX5_cell (d + 0) x1 x2 I J rv sp rr w nw g227 hg227) (fun v h hq => ?_)
    obtain ⟨rfl, rfl⟩ := hq
    refine mm_T.seg (f' := (10, [some (.ref 19), some (.int x1), some (.int x2)], [(.int 1), (.int g227), (.ref (19 + 6))])) (h' := (107, I, J, mm_rf rv sp rr w nw)) 1 rfl ?_
    refine mm_T.call (t := 205) (as := [(.ref (19 + 6)), (.int g227), (.int 1)]) (f' := (13, [some (.ref 19), some (.int x1), some (.int x2)], [])) rfl (t_put _ (19 + 6) 56 g227 1 I J (mm_rf rv sp rr w nw) rfl rfl) (fun v h hq => ?_)
    obtain ⟨rfl, rfl⟩ := hq
    refine mm_T.seg (f' := (23, [some (.ref 19), some (.int x1), some (.int x2)], [])) (h' := (107, (mm_up (mf_put I (19 + 6) 56 g227 1) 19 3 (((mf_put I (19 + 6) 56 g227 1) 19 3) + 1)), J, mm_rf rv sp rr w nw)) 6 rfl ?_
    cases e
    exact mm_T.ret rfl ⟨rfl, rfl⟩
set_option maxRecDepth 100000 in
set_option maxHeartbeats 4000000 in
theorem tX4_readIron (d n : Nat) (I : Nat → Nat → Int32) (J : Nat → Nat → Int64) (rv sp rr w nw : Nat) (hrr : rr = 3 ∨ rr = 19) (out : Int32 × (Nat → Nat → Int32) × (Nat → Nat → Int64)) (e : fX4_readIron n I J rr = some out) : mm_T none (d + 6) 48 (mm_ent 48 [(.ref 16)]) (107, I, J, mm_rf rv sp rr w nw) (fun v h => v = some (.int out.1) ∧ h = (107, out.2.1, out.2.2, mm_rf rv sp rr w nw)) := by
  rcases hrr with rfl | rfl
  · unfold fX4_readIron at e
    refine mm_T.seg (f' := (6, [some (.ref 16), none], [(.ref 3), (.int 0), (.ref 16)])) (h' := (107, I, J, mm_rf rv sp 3 w nw)) 4 rfl ?_
    refine mm_T.seg (f' := (11, [some (.ref 16), none], [(.int ((I 3 0) - 1)), (.int 0), (.ref 16)])) (h' := (107, I, J, mm_rf rv sp 3 w nw)) 3 rfl ?_
    obtain ⟨o1558, eo1558, e⟩ := mm_bind e
    refine mm_T.call (t := 43) (as := [(.ref 16), (.int 0), (.int ((I 3 0) - 1))]) (f' := (14, [some (.ref 16), none], [])) rfl (tX4_passNumber (d + 0) n 0 ((I 3 0) - 1) I J rv sp 3 w nw o1558 eo1558) (fun v h hq => ?_)
    obtain ⟨rfl, rfl⟩ := hq
    refine mm_T.seg (f' := (17, [some (.ref 16), some (.int o1558.1)], [(.int (-1)), (.int o1558.1)])) (h' := (107, o1558.2.1, o1558.2.2, mm_rf rv sp 3 w nw)) 3 rfl ?_
    refine mm_T.br (c := o1558.1 = (-1)) (a := ((37, [some (.ref 16), some (.int o1558.1)], []), (107, o1558.2.1, o1558.2.2, mm_rf rv sp 3 w nw))) (b := ((20, [some (.ref 16), some (.int o1558.1)], []), (107, o1558.2.1, o1558.2.2, mm_rf rv sp 3 w nw))) rfl (fun h1559 => ?_) (fun h1559 => ?_)
    · rw [if_pos h1559] at e
      refine mm_T.seg (f' := (38, [some (.ref 16), some (.int o1558.1)], [(.int 0)])) (h' := (107, o1558.2.1, o1558.2.2, mm_rf rv sp 3 w nw)) 1 rfl ?_
      cases e
      exact mm_T.ret rfl ⟨rfl, rfl⟩
    · rw [if_neg h1559] at e
      refine mm_T.seg (f' := (26, [some (.ref 16), some (.int o1558.1)], [(.ref 3), (.int 1), (.ref 16)])) (h' := (107, o1558.2.1, o1558.2.2, mm_rf rv sp 3 w nw)) 4 rfl ?_
      refine mm_T.seg (f' := (31, [some (.ref 16), some (.int o1558.1)], [(.int ((o1558.2.1 3 1) - 1)), (.int 1), (.ref 16)])) (h' := (107, o1558.2.1, o1558.2.2, mm_rf rv sp 3 w nw)) 3 rfl ?_
      obtain ⟨o1560, eo1560, e⟩ := mm_bind e
      refine mm_T.call (t := 42) (as := [(.ref 16), (.int 1), (.int ((o1558.2.1 3 1) - 1))]) (f' := (34, [some (.ref 16), some (.int o1558.1)], [])) rfl (tX4_isNumber (d + 4) 1 ((o1558.2.1 3 1) - 1) o1558.2.1 o1558.2.2 rv sp 3 w nw o1560 eo1560) (fun v h hq => ?_)
      obtain ⟨rfl, rfl⟩ := hq
      refine mm_T.br (c := o1560.1 = 0) (a := ((37, [some (.ref 16), some (.int o1558.1)], []), (107, o1560.2, o1558.2.2, mm_rf rv sp 3 w nw))) (b := ((39, [some (.ref 16), some (.int o1558.1)], []), (107, o1560.2, o1558.2.2, mm_rf rv sp 3 w nw))) rfl (fun h1561 => ?_) (fun h1561 => ?_)
      · rw [if_pos h1561] at e
        refine mm_T.seg (f' := (38, [some (.ref 16), some (.int o1558.1)], [(.int 0)])) (h' := (107, o1560.2, o1558.2.2, mm_rf rv sp 3 w nw)) 1 rfl ?_
        cases e
        exact mm_T.ret rfl ⟨rfl, rfl⟩
      · rw [if_neg h1561] at e
        refine mm_T.seg (f' := (43, [some (.ref 16), some (.int o1558.1)], [(.ref 3)])) (h' := (107, o1560.2, o1558.2.2, mm_rf rv sp 3 w nw)) 2 rfl ?_
        refine mm_T.seg (f' := (48, [some (.ref 16), some (.int o1558.1)], [(.int (o1560.2 16 6)), (.int o1558.1), (.ref 3)])) (h' := (107, o1560.2, o1558.2.2, mm_rf rv sp 3 w nw)) 3 rfl ?_
        obtain ⟨g226, hg226⟩ : ∃ z, fX5_ironAt o1558.1 (o1560.2 16 6) 3 o1560.2 = z := ⟨_, rfl⟩
        try rw [hg226] at e
        refine mm_T.call (t := 69) (as := [(.ref 3), (.int o1558.1), (.int (o1560.2 16 6))]) (f' := (51, [some (.ref 16), some (.int o1558.1)], [])) rfl (tX5_ironAt (d + 4) o1558.1 (o1560.2 16 6) 3 o1560.2 o1558.2.2 rv sp 3 w nw (Or.inl rfl) g226 hg226) (fun v h hq => ?_)
        obtain ⟨rfl, rfl⟩ := hq
        refine mm_T.br (c := g226 = 0) (a := ((60, [some (.ref 16), some (.int o1558.1)], []), (107, o1560.2, o1558.2.2, mm_rf rv sp 3 w nw))) (b := ((54, [some (.ref 16), some (.int o1558.1)], []), (107, o1560.2, o1558.2.2, mm_rf rv sp 3 w nw))) rfl (fun h1562 => ?_) (fun h1562 => ?_)
        · rw [if_pos h1562] at e
          refine mm_T.seg (f' := (64, [some (.ref 16), some (.int o1558.1)], [(.ref 3)])) (h' := (107, o1560.2, o1558.2.2, mm_rf rv sp 3 w nw)) 2 rfl ?_
          refine mm_T.seg (f' := (69, [some (.ref 16), some (.int o1558.1)], [(.int (o1560.2 16 6)), (.int o1558.1), (.ref 3)])) (h' := (107, o1560.2, o1558.2.2, mm_rf rv sp 3 w nw)) 3 rfl ?_
          obtain ⟨g228, hg228⟩ : ∃ z, fX5_addIron o1558.1 (o1560.2 16 6) 3 o1560.2 = z := ⟨_, rfl⟩
          try rw [hg228] at e
          refine mm_T.call (t := 71) (as := [(.ref 3), (.int o1558.1), (.int (o1560.2 16 6))]) (f' := (72, [some (.ref 16), some (.int o1558.1)], [])) rfl (tX5_addIron (d + 4) o1558.1 (o1560.2 16 6) 3 o1560.2 o1558.2.2 rv sp 3 w nw (Or.inl rfl) g228 hg228) (fun v h hq => ?_)
          obtain ⟨rfl, rfl⟩ := hq
          refine mm_T.seg (f' := (73, [some (.ref 16), some (.int o1558.1)], [(.ref 16)])) (h' := (107, g228, o1558.2.2, mm_rf rv sp 3 w nw)) 1 rfl ?_
          obtain ⟨o1563, eo1563, e⟩ := mm_bind e
          refine mm_T.call (t := 34) (as := [(.ref 16)]) (f' := (76, [some (.ref 16), some (.int o1558.1)], [])) rfl (tX4_advance (d + 1) n g228 o1558.2.2 rv sp 3 w nw o1563 eo1563) (fun v h hq => ?_)
          obtain ⟨rfl, rfl⟩ := hq
          refine mm_T.seg (f' := (77, [some (.ref 16), some (.int o1558.1)], [(.ref 16)])) (h' := (107, o1563.1, o1563.2, mm_rf rv sp 3 w nw)) 1 rfl ?_
          obtain ⟨o1564, eo1564, e⟩ := mm_bind e
          refine mm_T.call (t := 41) (as := [(.ref 16)]) (f' := (80, [some (.ref 16), some (.int o1558.1)], [])) rfl (tX4_passEndOfLine (d + 0) n o1563.1 o1563.2 rv sp 3 w nw o1564 eo1564) (fun v h hq => ?_)
          obtain ⟨rfl, rfl⟩ := hq
          by_cases h1565 : o1564.1 = 0 ∨ o1564.1 = 1
          case neg => rw [if_neg h1565] at e; cases e
          rw [if_pos h1565] at e
          cases e
          first | exact mm_T.retZ (v := some (.int o1564.1)) rfl h1565 ⟨rfl, rfl⟩ | exact mm_T.retZ (v := some (.int out)) rfl h1565 ⟨rfl, rfl⟩
        · rw [if_neg h1562] at e
          refine mm_T.seg (f' := (56, [some (.ref 16), some (.int o1558.1)], [(.int 3), (.ref 16)])) (h' := (107, o1560.2, o1558.2.2, mm_rf rv sp 3 w nw)) 2 rfl ?_
          obtain ⟨g229, hg229⟩ : ∃ z, fX4_refuse 3 o1560.2 = z := ⟨_, rfl⟩
          try rw [hg229] at e
          refine mm_T.call (t := 30) (as := [(.ref 16), (.int 3)]) (f' := (59, [some (.ref 16), some (.int o1558.1)], [])) rfl (tX4_refuse (d + 5) 3 o1560.2 o1558.2.2 rv sp 3 w nw g229 hg229) (fun v h hq => ?_)
          obtain ⟨rfl, rfl⟩ := hq
          by_cases h1566 : g229.1 = 0 ∨ g229.1 = 1
          case neg => rw [if_neg h1566] at e; cases e
          rw [if_pos h1566] at e
          cases e
          first | exact mm_T.retZ (v := some (.int g229.1)) rfl h1566 ⟨rfl, rfl⟩ | exact mm_T.retZ (v := some (.int out)) rfl h1566 ⟨rfl, rfl⟩
  · unfold fX4_readIron at e
    refine mm_T.seg (f' := (6, [some (.ref 16), none], [(.ref 19), (.int 0), (.ref 16)])) (h' := (107, I, J, mm_rf rv sp 19 w nw)) 4 rfl ?_
    refine mm_T.seg (f' := (11, [some (.ref 16), none], [(.int ((I 19 0) - 1)), (.int 0), (.ref 16)])) (h' := (107, I, J, mm_rf rv sp 19 w nw)) 3 rfl ?_
    obtain ⟨o1558, eo1558, e⟩ := mm_bind e
    refine mm_T.call (t := 43) (as := [(.ref 16), (.int 0), (.int ((I 19 0) - 1))]) (f' := (14, [some (.ref 16), none], [])) rfl (tX4_passNumber (d + 0) n 0 ((I 19 0) - 1) I J rv sp 19 w nw o1558 eo1558) (fun v h hq => ?_)
    obtain ⟨rfl, rfl⟩ := hq
    refine mm_T.seg (f' := (17, [some (.ref 16), some (.int o1558.1)], [(.int (-1)), (.int o1558.1)])) (h' := (107, o1558.2.1, o1558.2.2, mm_rf rv sp 19 w nw)) 3 rfl ?_
    refine mm_T.br (c := o1558.1 = (-1)) (a := ((37, [some (.ref 16), some (.int o1558.1)], []), (107, o1558.2.1, o1558.2.2, mm_rf rv sp 19 w nw))) (b := ((20, [some (.ref 16), some (.int o1558.1)], []), (107, o1558.2.1, o1558.2.2, mm_rf rv sp 19 w nw))) rfl (fun h1559 => ?_) (fun h1559 => ?_)
    · rw [if_pos h1559] at e
      refine mm_T.seg (f' := (38, [some (.ref 16), some (.int o1558.1)], [(.int 0)])) (h' := (107, o1558.2.1, o1558.2.2, mm_rf rv sp 19 w nw)) 1 rfl ?_
      cases e
      exact mm_T.ret rfl ⟨rfl, rfl⟩
    · rw [if_neg h1559] at e
      refine mm_T.seg (f' := (26, [some (.ref 16), some (.int o1558.1)], [(.ref 19), (.int 1), (.ref 16)])) (h' := (107, o1558.2.1, o1558.2.2, mm_rf rv sp 19 w nw)) 4 rfl ?_
      refine mm_T.seg (f' := (31, [some (.ref 16), some (.int o1558.1)], [(.int ((o1558.2.1 19 1) - 1)), (.int 1), (.ref 16)])) (h' := (107, o1558.2.1, o1558.2.2, mm_rf rv sp 19 w nw)) 3 rfl ?_
      obtain ⟨o1560, eo1560, e⟩ := mm_bind e
      refine mm_T.call (t := 42) (as := [(.ref 16), (.int 1), (.int ((o1558.2.1 19 1) - 1))]) (f' := (34, [some (.ref 16), some (.int o1558.1)], [])) rfl (tX4_isNumber (d + 4) 1 ((o1558.2.1 19 1) - 1) o1558.2.1 o1558.2.2 rv sp 19 w nw o1560 eo1560) (fun v h hq => ?_)
      obtain ⟨rfl, rfl⟩ := hq
      refine mm_T.br (c := o1560.1 = 0) (a := ((37, [some (.ref 16), some (.int o1558.1)], []), (107, o1560.2, o1558.2.2, mm_rf rv sp 19 w nw))) (b := ((39, [some (.ref 16), some (.int o1558.1)], []), (107, o1560.2, o1558.2.2, mm_rf rv sp 19 w nw))) rfl (fun h1561 => ?_) (fun h1561 => ?_)
      · rw [if_pos h1561] at e
        refine mm_T.seg (f' := (38, [some (.ref 16), some (.int o1558.1)], [(.int 0)])) (h' := (107, o1560.2, o1558.2.2, mm_rf rv sp 19 w nw)) 1 rfl ?_
        cases e
        exact mm_T.ret rfl ⟨rfl, rfl⟩
      · rw [if_neg h1561] at e
        refine mm_T.seg (f' := (43, [some (.ref 16), some (.int o1558.1)], [(.ref 19)])) (h' := (107, o1560.2, o1558.2.2, mm_rf rv sp 19 w nw)) 2 rfl ?_
        refine mm_T.seg (f' := (48, [some (.ref 16), some (.int o1558.1)], [(.int (o1560.2 16 6)), (.int o1558.1), (.ref 19)])) (h' := (107, o1560.2, o1558.2.2, mm_rf rv sp 19 w nw)) 3 rfl ?_
        obtain ⟨g226, hg226⟩ : ∃ z, fX5_ironAt o1558.1 (o1560.2 16 6) 19 o1560.2 = z := ⟨_, rfl⟩
        try rw [hg226] at e
        refine mm_T.call (t := 69) (as := [(.ref 19), (.int o1558.1), (.int (o1560.2 16 6))]) (f' := (51, [some (.ref 16), some (.int o1558.1)], [])) rfl (tX5_ironAt (d + 4) o1558.1 (o1560.2 16 6) 19 o1560.2 o1558.2.2 rv sp 19 w nw (Or.inr rfl) g226 hg226) (fun v h hq => ?_)
        obtain ⟨rfl, rfl⟩ := hq
        refine mm_T.br (c := g226 = 0) (a := ((60, [some (.ref 16), some (.int o1558.1)], []), (107, o1560.2, o1558.2.2, mm_rf rv sp 19 w nw))) (b := ((54, [some (.ref 16), some (.int o1558.1)], []), (107, o1560.2, o1558.2.2, mm_rf rv sp 19 w nw))) rfl (fun h1562 => ?_) (fun h1562 => ?_)
        · rw [if_pos h1562] at e
          refine mm_T.seg (f' := (64, [some (.ref 16), some (.int o1558.1)], [(.ref 19)])) (h' := (107, o1560.2, o1558.2.2, mm_rf rv sp 19 w nw)) 2 rfl ?_
          refine mm_T.seg (f' := (69, [some (.ref 16), some (.int o1558.1)], [(.int (o1560.2 16 6)), (.int o1558.1), (.ref 19)])) (h' := (107, o1560.2, o1558.2.2, mm_rf rv sp 19 w nw)) 3 rfl ?_
          obtain ⟨g228, hg228⟩ : ∃ z, fX5_addIron o1558.1 (o1560.2 16 6) 19 o1560.2 = z := ⟨_, rfl⟩
          try rw [hg228] at e
          refine mm_T.call (t := 71) (as := [(.ref 19), (.int o1558.1), (.int (o1560.2 16 6))]) (f' := (72, [some (.ref 16), some (.int o1558.1)], [])) rfl (tX5_addIron (d + 4) o1558.1 (o1560.2 16 6) 19 o1560.2 o1558.2.2 rv sp 19 w nw (Or.inr rfl) g228 hg228) (fun v h hq => ?_)
          obtain ⟨rfl, rfl⟩ := hq
          refine mm_T.seg (f' := (73, [some (.ref 16), some (.int o1558.1)], [(.ref 16)])) (h' := (107, g228, o1558.2.2, mm_rf rv sp 19 w nw)) 1 rfl ?_
          obtain ⟨o1563, eo1563, e⟩ := mm_bind e
          refine mm_T.call (t := 34) (as := [(.ref 16)]) (f' := (76, [some (.ref 16), some (.int o1558.1)], [])) rfl (tX4_advance (d + 1) n g228 o1558.2.2 rv sp 19 w nw o1563 eo1563) (fun v h hq => ?_)
          obtain ⟨rfl, rfl⟩ := hq
          refine mm_T.seg (f' := (77, [some (.ref 16), some (.int o1558.1)], [(.ref 16)])) (h' := (107, o1563.1, o1563.2, mm_rf rv sp 19 w nw)) 1 rfl ?_
          obtain ⟨o1564, eo1564, e⟩ := mm_bind e
          refine mm_T.call (t := 41) (as := [(.ref 16)]) (f' := (80, [some (.ref 16), some (.int o1558.1)], [])) rfl (tX4_passEndOfLine (d + 0) n o1563.1 o1563.2 rv sp 19 w nw o1564 eo1564) (fun v h hq => ?_)
          obtain ⟨rfl, rfl⟩ := hq
          by_cases h1565 : o1564.1 = 0 ∨ o1564.1 = 1
          case neg => rw [if_neg h1565] at e; cases e
          rw [if_pos h1565] at e
          cases e
          first | exact mm_T.retZ (v := some (.int o1564.1)) rfl h1565 ⟨rfl, rfl⟩ | exact mm_T.retZ (v := some (.int out)) rfl h1565 ⟨rfl, rfl⟩
        · rw [if_neg h1562] at e
          refine mm_T.seg (f' := (56, [some (.ref 16), some (.int o1558.1)], [(.int 3), (.ref 16)])) (h' := (107, o1560.2, o1558.2.2, mm_rf rv sp 19 w nw)) 2 rfl ?_
          obtain ⟨g229, hg229⟩ : ∃ z, fX4_refuse 3 o1560.2 = z := ⟨_, rfl⟩
          try rw [hg229] at e
          refine mm_T.call (t := 30) (as := [(.ref 16), (.int 3)]) (f' := (59, [some (.ref 16), some (.int o1558.1)], [])) rfl (tX4_refuse (d + 5) 3 o1560.2 o1558.2.2 rv sp 19 w nw g229 hg229) (fun v h hq => ?_)
          obtain ⟨rfl, rfl⟩ := hq
          by_cases h1566 : g229.1 = 0 ∨ g229.1 = 1
          case neg => rw [if_neg h1566] at e; cases e
          rw [if_pos h1566] at e
          cases e
          first | exact mm_T.retZ (v := some (.int g229.1)) rfl h1566 ⟨rfl, rfl⟩ | exact mm_T.retZ (v := some (.int out)) rfl h1566 ⟨rfl, rfl⟩
set_option maxRecDepth 100000 in
set_option maxHeartbeats 4000000 in
theorem tlX5_isAmong_12_L3 (d : Nat) (Q : Option Value → mm_H → Prop) : ∀ (n : Nat) (y1 : Int32) (y2 : Int64) (y4 : Int32) (p0 : Nat) (I : Nat → Nat → Int32) (J : Nat → Nat → Int64) (rv sp rr w nw : Nat), (p0 = 3 ∨ p0 = 19) → ∀ (out : (Int32 ⊕ (Unit))), fX5_isAmong_12_L3 n y1 y2 y4 p0 J = some out → (∀ (r : Int32), out = .inl r → Q (some (.int r)) (107, I, J, mm_rf rv sp rr w nw)) → (∀ (y : Unit), out = .inr y → mm_T none (d + 0) 76 (33, [none, none, none, none, none], []) (107, I, J, mm_rf rv sp rr w nw) Q) → mm_T none (d + 0) 76 (3, [some (.ref (p0 + 12)), some (.int y1), some (.long y2), none, some (.int y4)], []) (107, I, J, mm_rf rv sp rr w nw) Q := by
  intro n
  induction n with
  | zero =>
    intro y1 y2 y4 p0 I J rv sp rr w nw hp0 out e kr ke
    rw [fX5_isAmong_12_L3] at e; cases e
  | succ n ih =>
    intro y1 y2 y4 p0 I J rv sp rr w nw hp0 out e kr ke
    rcases hp0 with rfl | rfl
    · rw [fX5_isAmong_12_L3] at e
      refine mm_T.seg (f' := (6, [some (.ref (3 + 12)), some (.int y1), some (.long y2), none, some (.int y4)], [(.int y1), (.int y4)])) (h' := (107, I, J, mm_rf rv sp rr w nw)) 2 rfl ?_
      refine mm_T.br (c := y4 < y1) (a := ((9, [some (.ref (3 + 12)), some (.int y1), some (.long y2), none, some (.int y4)], []), (107, I, J, mm_rf rv sp rr w nw))) (b := ((33, [some (.ref (3 + 12)), some (.int y1), some (.long y2), none, some (.int y4)], []), (107, I, J, mm_rf rv sp rr w nw))) rfl (fun h1577 => ?_) (fun h1577 => ?_)
      · rw [if_pos h1577] at e
        refine mm_T.seg (f' := (13, [some (.ref (3 + 12)), some (.int y1), some (.long y2), none, some (.int y4)], [(.int 7), (.int y4)])) (h' := (107, I, J, mm_rf rv sp rr w nw)) 3 rfl ?_
        refine mm_T.br (c := y4 < 7) (a := ((16, [some (.ref (3 + 12)), some (.int y1), some (.long y2), none, some (.int y4)], []), (107, I, J, mm_rf rv sp rr w nw))) (b := ((33, [some (.ref (3 + 12)), some (.int y1), some (.long y2), none, some (.int y4)], []), (107, I, J, mm_rf rv sp rr w nw))) rfl (fun h1578 => ?_) (fun h1578 => ?_)
        · rw [if_pos h1578] at e
          refine mm_T.seg (f' := (19, [some (.ref (3 + 12)), some (.int y1), some (.long y2), none, some (.int y4)], [(.int y4), (.ref (3 + 12))])) (h' := (107, I, J, mm_rf rv sp rr w nw)) 2 rfl ?_
          by_cases h1579 : y4 < 0 ∨ 7 ≤ y4.toNatClampNeg
          · rw [if_pos h1579] at e; cases e
          rw [if_neg h1579] at e
          refine mm_T.guard (y := ((20, [some (.ref (3 + 12)), some (.int y1), some (.long y2), none, some (.int y4)], [(.long (J (3 + 12) y4.toNatClampNeg))]), (107, I, J, mm_rf rv sp rr w nw))) rfl h1579 ?_
          refine mm_T.seg (f' := (22, [some (.ref (3 + 12)), some (.int y1), some (.long y2), none, some (.int y4)], [(.int (lg_cmp (J (3 + 12) y4.toNatClampNeg) y2))])) (h' := (107, I, J, mm_rf rv sp rr w nw)) 2 rfl ?_
          refine mm_T.br (c := (lg_cmp (J (3 + 12) y4.toNatClampNeg) y2) = 0) (a := ((25, [some (.ref (3 + 12)), some (.int y1), some (.long y2), none, some (.int y4)], []), (107, I, J, mm_rf rv sp rr w nw))) (b := ((27, [some (.ref (3 + 12)), some (.int y1), some (.long y2), none, some (.int y4)], []), (107, I, J, mm_rf rv sp rr w nw))) rfl (fun h1580 => ?_) (fun h1580 => ?_)
          · rw [if_pos h1580] at e
            refine mm_T.seg (f' := (26, [some (.ref (3 + 12)), some (.int y1), some (.long y2), none, some (.int y4)], [(.int 1)])) (h' := (107, I, J, mm_rf rv sp rr w nw)) 1 rfl ?_
            cases e
            exact mm_T.ret rfl (kr _ rfl)
          · rw [if_neg h1580] at e
            refine mm_T.seg (f' := (3, [some (.ref (3 + 12)), some (.int y1), some (.long y2), none, some (.int (y4 + 1))], [])) (h' := (107, I, J, mm_rf rv sp rr w nw)) 2 rfl ?_
            refine mm_T.mask [true, true, true, false, true] ?_
            exact ih y1 y2 (y4 + 1) 3 I J rv sp rr w nw (Or.inl rfl) out e kr ke
        · rw [if_neg h1578] at e
          cases e
          refine mm_T.mask [false, false, false, false, false] ?_
          exact ke _ rfl
      · rw [if_neg h1577] at e
        cases e
        refine mm_T.mask [false, false, false, false, false] ?_
        exact ke _ rfl
    · rw [fX5_isAmong_12_L3] at e
      refine mm_T.seg (f' := (6, [some (.ref (19 + 12)), some (.int y1), some (.long y2), none, some (.int y4)], [(.int y1), (.int y4)])) (h' := (107, I, J, mm_rf rv sp rr w nw)) 2 rfl ?_
      refine mm_T.br (c := y4 < y1) (a := ((9, [some (.ref (19 + 12)), some (.int y1), some (.long y2), none, some (.int y4)], []), (107, I, J, mm_rf rv sp rr w nw))) (b := ((33, [some (.ref (19 + 12)), some (.int y1), some (.long y2), none, some (.int y4)], []), (107, I, J, mm_rf rv sp rr w nw))) rfl (fun h1577 => ?_) (fun h1577 => ?_)
      · rw [if_pos h1577] at e
        refine mm_T.seg (f' := (13, [some (.ref (19 + 12)), some (.int y1), some (.long y2), none, some (.int y4)], [(.int 7), (.int y4)])) (h' := (107, I, J, mm_rf rv sp rr w nw)) 3 rfl ?_
        refine mm_T.br (c := y4 < 7) (a := ((16, [some (.ref (19 + 12)), some (.int y1), some (.long y2), none, some (.int y4)], []), (107, I, J, mm_rf rv sp rr w nw))) (b := ((33, [some (.ref (19 + 12)), some (.int y1), some (.long y2), none, some (.int y4)], []), (107, I, J, mm_rf rv sp rr w nw))) rfl (fun h1578 => ?_) (fun h1578 => ?_)
        · rw [if_pos h1578] at e
          refine mm_T.seg (f' := (19, [some (.ref (19 + 12)), some (.int y1), some (.long y2), none, some (.int y4)], [(.int y4), (.ref (19 + 12))])) (h' := (107, I, J, mm_rf rv sp rr w nw)) 2 rfl ?_
          by_cases h1579 : y4 < 0 ∨ 7 ≤ y4.toNatClampNeg
          · rw [if_pos h1579] at e; cases e
          rw [if_neg h1579] at e
          refine mm_T.guard (y := ((20, [some (.ref (19 + 12)), some (.int y1), some (.long y2), none, some (.int y4)], [(.long (J (19 + 12) y4.toNatClampNeg))]), (107, I, J, mm_rf rv sp rr w nw))) rfl h1579 ?_
          refine mm_T.seg (f' := (22, [some (.ref (19 + 12)), some (.int y1), some (.long y2), none, some (.int y4)], [(.int (lg_cmp (J (19 + 12) y4.toNatClampNeg) y2))])) (h' := (107, I, J, mm_rf rv sp rr w nw)) 2 rfl ?_
          refine mm_T.br (c := (lg_cmp (J (19 + 12) y4.toNatClampNeg) y2) = 0) (a := ((25, [some (.ref (19 + 12)), some (.int y1), some (.long y2), none, some (.int y4)], []), (107, I, J, mm_rf rv sp rr w nw))) (b := ((27, [some (.ref (19 + 12)), some (.int y1), some (.long y2), none, some (.int y4)], []), (107, I, J, mm_rf rv sp rr w nw))) rfl (fun h1580 => ?_) (fun h1580 => ?_)
          · rw [if_pos h1580] at e
            refine mm_T.seg (f' := (26, [some (.ref (19 + 12)), some (.int y1), some (.long y2), none, some (.int y4)], [(.int 1)])) (h' := (107, I, J, mm_rf rv sp rr w nw)) 1 rfl ?_
            cases e
            exact mm_T.ret rfl (kr _ rfl)
          · rw [if_neg h1580] at e
            refine mm_T.seg (f' := (3, [some (.ref (19 + 12)), some (.int y1), some (.long y2), none, some (.int (y4 + 1))], [])) (h' := (107, I, J, mm_rf rv sp rr w nw)) 2 rfl ?_
            refine mm_T.mask [true, true, true, false, true] ?_
            exact ih y1 y2 (y4 + 1) 19 I J rv sp rr w nw (Or.inr rfl) out e kr ke
        · rw [if_neg h1578] at e
          cases e
          refine mm_T.mask [false, false, false, false, false] ?_
          exact ke _ rfl
      · rw [if_neg h1577] at e
        cases e
        refine mm_T.mask [false, false, false, false, false] ?_
        exact ke _ rfl
set_option maxRecDepth 100000 in
set_option maxHeartbeats 4000000 in
theorem tX5_isAmong_12 (d n : Nat) (x1 : Int32) (x2 : Int64) (p0 : Nat) (I : Nat → Nat → Int32) (J : Nat → Nat → Int64) (rv sp rr w nw : Nat) (hp0 : p0 = 3 ∨ p0 = 19) (out : Int32) (e : fX5_isAmong_12 n x1 x2 p0 J = some out) : mm_T none (d + 0) 76 (mm_ent 76 [(.ref (p0 + 12)), (.int x1), (.long x2)]) (107, I, J, mm_rf rv sp rr w nw) (fun v h => v = some (.int out) ∧ h = (107, I, J, mm_rf rv sp rr w nw)) := by
  rcases hp0 with rfl | rfl
  · unfold fX5_isAmong_12 at e
    refine mm_T.seg (f' := (3, [some (.ref (3 + 12)), some (.int x1), some (.long x2), none, some (.int 0)], [])) (h' := (107, I, J, mm_rf rv sp rr w nw)) 2 rfl ?_
    refine mm_T.mask [true, true, true, false, true] ?_
    obtain ⟨o1581, eo1581, e⟩ := mm_bind e
    rcases o1581 with va1582 | vb1582
    · cases e
      refine tlX5_isAmong_12_L3 d _ n x1 x2 0 3 I J rv sp rr w nw (Or.inl rfl) _ eo1581 (fun z hz => ?_) (fun z hz => ?_)
      · cases hz; exact ⟨rfl, rfl⟩
      · cases hz
    · refine tlX5_isAmong_12_L3 d _ n x1 x2 0 3 I J rv sp rr w nw (Or.inl rfl) (.inr vb1582) eo1581 (fun z hz => ?_) (fun z hz => ?_)
      · cases hz
      · cases hz
        refine mm_T.seg (f' := (34, [none, none, none, none, none], [(.int 0)])) (h' := (107, I, J, mm_rf rv sp rr w nw)) 1 rfl ?_
        cases e
        exact mm_T.ret rfl ⟨rfl, rfl⟩
  · unfold fX5_isAmong_12 at e
    refine mm_T.seg (f' := (3, [some (.ref (19 + 12)), some (.int x1), some (.long x2), none, some (.int 0)], [])) (h' := (107, I, J, mm_rf rv sp rr w nw)) 2 rfl ?_
    refine mm_T.mask [true, true, true, false, true] ?_
    obtain ⟨o1581, eo1581, e⟩ := mm_bind e
    rcases o1581 with va1582 | vb1582
    · cases e
      refine tlX5_isAmong_12_L3 d _ n x1 x2 0 19 I J rv sp rr w nw (Or.inr rfl) _ eo1581 (fun z hz => ?_) (fun z hz => ?_)
      · cases hz; exact ⟨rfl, rfl⟩
      · cases hz
    · refine tlX5_isAmong_12_L3 d _ n x1 x2 0 19 I J rv sp rr w nw (Or.inr rfl) (.inr vb1582) eo1581 (fun z hz => ?_) (fun z hz => ?_)
      · cases hz
      · cases hz
        refine mm_T.seg (f' := (34, [none, none, none, none, none], [(.int 0)])) (h' := (107, I, J, mm_rf rv sp rr w nw)) 1 rfl ?_
        cases e
        exact mm_T.ret rfl ⟨rfl, rfl⟩
set_option maxRecDepth 100000 in
set_option maxHeartbeats 4000000 in
theorem tX5_hasLoad (d n : Nat) (x1 : Int64) (r : Nat) (I : Nat → Nat → Int32) (J : Nat → Nat → Int64) (rv sp rr w nw : Nat) (hr : r = 3 ∨ r = 19) (out : Int32) (e : fX5_hasLoad n x1 r I J = some out) : mm_T none (d + 1) 75 (mm_ent 75 [(.ref r), (.long x1)]) (107, I, J, mm_rf rv sp rr w nw) (fun v h => v = some (.int out) ∧ h = (107, I, J, mm_rf rv sp rr w nw)) := by
  rcases hr with rfl | rfl
  · unfold fX5_hasLoad at e
    refine mm_T.seg (f' := (4, [some (.ref 3), some (.long x1), none], [(.ref (3 + 12))])) (h' := (107, I, J, mm_rf rv sp rr w nw)) 2 rfl ?_
    refine mm_T.seg (f' := (9, [some (.ref 3), some (.long x1), none], [(.long x1), (.int (I 3 5)), (.ref (3 + 12))])) (h' := (107, I, J, mm_rf rv sp rr w nw)) 3 rfl ?_
    obtain ⟨o1583, eo1583, e⟩ := mm_bind e
    refine mm_T.call (t := 76) (as := [(.ref (3 + 12)), (.int (I 3 5)), (.long x1)]) (f' := (12, [some (.ref 3), some (.long x1), none], [])) rfl (tX5_isAmong_12 (d + 0) n (I 3 5) x1 3 I J rv sp rr w nw (Or.inl rfl) o1583 eo1583) (fun v h hq => ?_)
    obtain ⟨rfl, rfl⟩ := hq
    by_cases h1584 : o1583 = 0 ∨ o1583 = 1
    case neg => rw [if_neg h1584] at e; cases e
    rw [if_pos h1584] at e
    cases e
    first | exact mm_T.retZ (v := some (.int o1583)) rfl h1584 ⟨rfl, rfl⟩ | exact mm_T.retZ (v := some (.int out)) rfl h1584 ⟨rfl, rfl⟩
  · unfold fX5_hasLoad at e
    refine mm_T.seg (f' := (4, [some (.ref 19), some (.long x1), none], [(.ref (19 + 12))])) (h' := (107, I, J, mm_rf rv sp rr w nw)) 2 rfl ?_
    refine mm_T.seg (f' := (9, [some (.ref 19), some (.long x1), none], [(.long x1), (.int (I 19 5)), (.ref (19 + 12))])) (h' := (107, I, J, mm_rf rv sp rr w nw)) 3 rfl ?_
    obtain ⟨o1583, eo1583, e⟩ := mm_bind e
    refine mm_T.call (t := 76) (as := [(.ref (19 + 12)), (.int (I 19 5)), (.long x1)]) (f' := (12, [some (.ref 19), some (.long x1), none], [])) rfl (tX5_isAmong_12 (d + 0) n (I 19 5) x1 19 I J rv sp rr w nw (Or.inr rfl) o1583 eo1583) (fun v h hq => ?_)
    obtain ⟨rfl, rfl⟩ := hq
    by_cases h1584 : o1583 = 0 ∨ o1583 = 1
    case neg => rw [if_neg h1584] at e; cases e
    rw [if_pos h1584] at e
    cases e
    first | exact mm_T.retZ (v := some (.int o1583)) rfl h1584 ⟨rfl, rfl⟩ | exact mm_T.retZ (v := some (.int out)) rfl h1584 ⟨rfl, rfl⟩
set_option maxRecDepth 100000 in
set_option maxHeartbeats 4000000 in
theorem tlX5_isAmong_10_L3 (d : Nat) (Q : Option Value → mm_H → Prop) : ∀ (n : Nat) (y1 : Int32) (y2 : Int64) (y4 : Int32) (p0 : Nat) (I : Nat → Nat → Int32) (J : Nat → Nat → Int64) (rv sp rr w nw : Nat), (p0 = 3 ∨ p0 = 19) → ∀ (out : (Int32 ⊕ (Unit))), fX5_isAmong_10_L3 n y1 y2 y4 p0 J = some out → (∀ (r : Int32), out = .inl r → Q (some (.int r)) (107, I, J, mm_rf rv sp rr w nw)) → (∀ (y : Unit), out = .inr y → mm_T none (d + 0) 76 (33, [none, none, none, none, none], []) (107, I, J, mm_rf rv sp rr w nw) Q) → mm_T none (d + 0) 76 (3, [some (.ref (p0 + 10)), some (.int y1), some (.long y2), none, some (.int y4)], []) (107, I, J, mm_rf rv sp rr w nw) Q := by
  intro n
  induction n with
  | zero =>
    intro y1 y2 y4 p0 I J rv sp rr w nw hp0 out e kr ke
    rw [fX5_isAmong_10_L3] at e; cases e
  | succ n ih =>
    intro y1 y2 y4 p0 I J rv sp rr w nw hp0 out e kr ke
    rcases hp0 with rfl | rfl
    · rw [fX5_isAmong_10_L3] at e
      refine mm_T.seg (f' := (6, [some (.ref (3 + 10)), some (.int y1), some (.long y2), none, some (.int y4)], [(.int y1), (.int y4)])) (h' := (107, I, J, mm_rf rv sp rr w nw)) 2 rfl ?_
      refine mm_T.br (c := y4 < y1) (a := ((9, [some (.ref (3 + 10)), some (.int y1), some (.long y2), none, some (.int y4)], []), (107, I, J, mm_rf rv sp rr w nw))) (b := ((33, [some (.ref (3 + 10)), some (.int y1), some (.long y2), none, some (.int y4)], []), (107, I, J, mm_rf rv sp rr w nw))) rfl (fun h1592 => ?_) (fun h1592 => ?_)
      · rw [if_pos h1592] at e
        refine mm_T.seg (f' := (13, [some (.ref (3 + 10)), some (.int y1), some (.long y2), none, some (.int y4)], [(.int 4), (.int y4)])) (h' := (107, I, J, mm_rf rv sp rr w nw)) 3 rfl ?_
        refine mm_T.br (c := y4 < 4) (a := ((16, [some (.ref (3 + 10)), some (.int y1), some (.long y2), none, some (.int y4)], []), (107, I, J, mm_rf rv sp rr w nw))) (b := ((33, [some (.ref (3 + 10)), some (.int y1), some (.long y2), none, some (.int y4)], []), (107, I, J, mm_rf rv sp rr w nw))) rfl (fun h1593 => ?_) (fun h1593 => ?_)
        · rw [if_pos h1593] at e
          refine mm_T.seg (f' := (19, [some (.ref (3 + 10)), some (.int y1), some (.long y2), none, some (.int y4)], [(.int y4), (.ref (3 + 10))])) (h' := (107, I, J, mm_rf rv sp rr w nw)) 2 rfl ?_
          by_cases h1594 : y4 < 0 ∨ 4 ≤ y4.toNatClampNeg
          · rw [if_pos h1594] at e; cases e
          rw [if_neg h1594] at e
          refine mm_T.guard (y := ((20, [some (.ref (3 + 10)), some (.int y1), some (.long y2), none, some (.int y4)], [(.long (J (3 + 10) y4.toNatClampNeg))]), (107, I, J, mm_rf rv sp rr w nw))) rfl h1594 ?_
          refine mm_T.seg (f' := (22, [some (.ref (3 + 10)), some (.int y1), some (.long y2), none, some (.int y4)], [(.int (lg_cmp (J (3 + 10) y4.toNatClampNeg) y2))])) (h' := (107, I, J, mm_rf rv sp rr w nw)) 2 rfl ?_
          refine mm_T.br (c := (lg_cmp (J (3 + 10) y4.toNatClampNeg) y2) = 0) (a := ((25, [some (.ref (3 + 10)), some (.int y1), some (.long y2), none, some (.int y4)], []), (107, I, J, mm_rf rv sp rr w nw))) (b := ((27, [some (.ref (3 + 10)), some (.int y1), some (.long y2), none, some (.int y4)], []), (107, I, J, mm_rf rv sp rr w nw))) rfl (fun h1595 => ?_) (fun h1595 => ?_)
          · rw [if_pos h1595] at e
            refine mm_T.seg (f' := (26, [some (.ref (3 + 10)), some (.int y1), some (.long y2), none, some (.int y4)], [(.int 1)])) (h' := (107, I, J, mm_rf rv sp rr w nw)) 1 rfl ?_
            cases e
            exact mm_T.ret rfl (kr _ rfl)
          · rw [if_neg h1595] at e
            refine mm_T.seg (f' := (3, [some (.ref (3 + 10)), some (.int y1), some (.long y2), none, some (.int (y4 + 1))], [])) (h' := (107, I, J, mm_rf rv sp rr w nw)) 2 rfl ?_
            refine mm_T.mask [true, true, true, false, true] ?_
            exact ih y1 y2 (y4 + 1) 3 I J rv sp rr w nw (Or.inl rfl) out e kr ke
        · rw [if_neg h1593] at e
          cases e
          refine mm_T.mask [false, false, false, false, false] ?_
          exact ke _ rfl
      · rw [if_neg h1592] at e
        cases e
        refine mm_T.mask [false, false, false, false, false] ?_
        exact ke _ rfl
    · rw [fX5_isAmong_10_L3] at e
      refine mm_T.seg (f' := (6, [some (.ref (19 + 10)), some (.int y1), some (.long y2), none, some (.int y4)], [(.int y1), (.int y4)])) (h' := (107, I, J, mm_rf rv sp rr w nw)) 2 rfl ?_
      refine mm_T.br (c := y4 < y1) (a := ((9, [some (.ref (19 + 10)), some (.int y1), some (.long y2), none, some (.int y4)], []), (107, I, J, mm_rf rv sp rr w nw))) (b := ((33, [some (.ref (19 + 10)), some (.int y1), some (.long y2), none, some (.int y4)], []), (107, I, J, mm_rf rv sp rr w nw))) rfl (fun h1592 => ?_) (fun h1592 => ?_)
      · rw [if_pos h1592] at e
        refine mm_T.seg (f' := (13, [some (.ref (19 + 10)), some (.int y1), some (.long y2), none, some (.int y4)], [(.int 4), (.int y4)])) (h' := (107, I, J, mm_rf rv sp rr w nw)) 3 rfl ?_
        refine mm_T.br (c := y4 < 4) (a := ((16, [some (.ref (19 + 10)), some (.int y1), some (.long y2), none, some (.int y4)], []), (107, I, J, mm_rf rv sp rr w nw))) (b := ((33, [some (.ref (19 + 10)), some (.int y1), some (.long y2), none, some (.int y4)], []), (107, I, J, mm_rf rv sp rr w nw))) rfl (fun h1593 => ?_) (fun h1593 => ?_)
        · rw [if_pos h1593] at e
          refine mm_T.seg (f' := (19, [some (.ref (19 + 10)), some (.int y1), some (.long y2), none, some (.int y4)], [(.int y4), (.ref (19 + 10))])) (h' := (107, I, J, mm_rf rv sp rr w nw)) 2 rfl ?_
          by_cases h1594 : y4 < 0 ∨ 4 ≤ y4.toNatClampNeg
          · rw [if_pos h1594] at e; cases e
          rw [if_neg h1594] at e
          refine mm_T.guard (y := ((20, [some (.ref (19 + 10)), some (.int y1), some (.long y2), none, some (.int y4)], [(.long (J (19 + 10) y4.toNatClampNeg))]), (107, I, J, mm_rf rv sp rr w nw))) rfl h1594 ?_
          refine mm_T.seg (f' := (22, [some (.ref (19 + 10)), some (.int y1), some (.long y2), none, some (.int y4)], [(.int (lg_cmp (J (19 + 10) y4.toNatClampNeg) y2))])) (h' := (107, I, J, mm_rf rv sp rr w nw)) 2 rfl ?_
          refine mm_T.br (c := (lg_cmp (J (19 + 10) y4.toNatClampNeg) y2) = 0) (a := ((25, [some (.ref (19 + 10)), some (.int y1), some (.long y2), none, some (.int y4)], []), (107, I, J, mm_rf rv sp rr w nw))) (b := ((27, [some (.ref (19 + 10)), some (.int y1), some (.long y2), none, some (.int y4)], []), (107, I, J, mm_rf rv sp rr w nw))) rfl (fun h1595 => ?_) (fun h1595 => ?_)
          · rw [if_pos h1595] at e
            refine mm_T.seg (f' := (26, [some (.ref (19 + 10)), some (.int y1), some (.long y2), none, some (.int y4)], [(.int 1)])) (h' := (107, I, J, mm_rf rv sp rr w nw)) 1 rfl ?_
            cases e
            exact mm_T.ret rfl (kr _ rfl)
          · rw [if_neg h1595] at e
            refine mm_T.seg (f' := (3, [some (.ref (19 + 10)), some (.int y1), some (.long y2), none, some (.int (y4 + 1))], [])) (h' := (107, I, J, mm_rf rv sp rr w nw)) 2 rfl ?_
            refine mm_T.mask [true, true, true, false, true] ?_
            exact ih y1 y2 (y4 + 1) 19 I J rv sp rr w nw (Or.inr rfl) out e kr ke
        · rw [if_neg h1593] at e
          cases e
          refine mm_T.mask [false, false, false, false, false] ?_
          exact ke _ rfl
      · rw [if_neg h1592] at e
        cases e
        refine mm_T.mask [false, false, false, false, false] ?_
        exact ke _ rfl
set_option maxRecDepth 100000 in
set_option maxHeartbeats 4000000 in
theorem tX5_isAmong_10 (d n : Nat) (x1 : Int32) (x2 : Int64) (p0 : Nat) (I : Nat → Nat → Int32) (J : Nat → Nat → Int64) (rv sp rr w nw : Nat) (hp0 : p0 = 3 ∨ p0 = 19) (out : Int32) (e : fX5_isAmong_10 n x1 x2 p0 J = some out) : mm_T none (d + 0) 76 (mm_ent 76 [(.ref (p0 + 10)), (.int x1), (.long x2)]) (107, I, J, mm_rf rv sp rr w nw) (fun v h => v = some (.int out) ∧ h = (107, I, J, mm_rf rv sp rr w nw)) := by
  rcases hp0 with rfl | rfl
  · unfold fX5_isAmong_10 at e
    refine mm_T.seg (f' := (3, [some (.ref (3 + 10)), some (.int x1), some (.long x2), none, some (.int 0)], [])) (h' := (107, I, J, mm_rf rv sp rr w nw)) 2 rfl ?_
    refine mm_T.mask [true, true, true, false, true] ?_
    obtain ⟨o1596, eo1596, e⟩ := mm_bind e
    rcases o1596 with va1597 | vb1597
    · cases e
      refine tlX5_isAmong_10_L3 d _ n x1 x2 0 3 I J rv sp rr w nw (Or.inl rfl) _ eo1596 (fun z hz => ?_) (fun z hz => ?_)
      · cases hz; exact ⟨rfl, rfl⟩
      · cases hz
    · refine tlX5_isAmong_10_L3 d _ n x1 x2 0 3 I J rv sp rr w nw (Or.inl rfl) (.inr vb1597) eo1596 (fun z hz => ?_) (fun z hz => ?_)
      · cases hz
      · cases hz
        refine mm_T.seg (f' := (34, [none, none, none, none, none], [(.int 0)])) (h' := (107, I, J, mm_rf rv sp rr w nw)) 1 rfl ?_
        cases e
        exact mm_T.ret rfl ⟨rfl, rfl⟩
  · unfold fX5_isAmong_10 at e
    refine mm_T.seg (f' := (3, [some (.ref (19 + 10)), some (.int x1), some (.long x2), none, some (.int 0)], [])) (h' := (107, I, J, mm_rf rv sp rr w nw)) 2 rfl ?_
    refine mm_T.mask [true, true, true, false, true] ?_
    obtain ⟨o1596, eo1596, e⟩ := mm_bind e
    rcases o1596 with va1597 | vb1597
    · cases e
      refine tlX5_isAmong_10_L3 d _ n x1 x2 0 19 I J rv sp rr w nw (Or.inr rfl) _ eo1596 (fun z hz => ?_) (fun z hz => ?_)
      · cases hz; exact ⟨rfl, rfl⟩
      · cases hz
    · refine tlX5_isAmong_10_L3 d _ n x1 x2 0 19 I J rv sp rr w nw (Or.inr rfl) (.inr vb1597) eo1596 (fun z hz => ?_) (fun z hz => ?_)
      · cases hz
      · cases hz
        refine mm_T.seg (f' := (34, [none, none, none, none, none], [(.int 0)])) (h' := (107, I, J, mm_rf rv sp rr w nw)) 1 rfl ?_
        cases e
        exact mm_T.ret rfl ⟨rfl, rfl⟩
set_option maxRecDepth 100000 in
set_option maxHeartbeats 4000000 in
theorem tX5_hasBoard (d n : Nat) (x1 : Int64) (r : Nat) (I : Nat → Nat → Int32) (J : Nat → Nat → Int64) (rv sp rr w nw : Nat) (hr : r = 3 ∨ r = 19) (out : Int32) (e : fX5_hasBoard n x1 r I J = some out) : mm_T none (d + 1) 74 (mm_ent 74 [(.ref r), (.long x1)]) (107, I, J, mm_rf rv sp rr w nw) (fun v h => v = some (.int out) ∧ h = (107, I, J, mm_rf rv sp rr w nw)) := by
  rcases hr with rfl | rfl
  · unfold fX5_hasBoard at e
    refine mm_T.seg (f' := (4, [some (.ref 3), some (.long x1), none], [(.ref (3 + 10))])) (h' := (107, I, J, mm_rf rv sp rr w nw)) 2 rfl ?_
    refine mm_T.seg (f' := (9, [some (.ref 3), some (.long x1), none], [(.long x1), (.int (I 3 4)), (.ref (3 + 10))])) (h' := (107, I, J, mm_rf rv sp rr w nw)) 3 rfl ?_
    obtain ⟨o1598, eo1598, e⟩ := mm_bind e
    refine mm_T.call (t := 76) (as := [(.ref (3 + 10)), (.int (I 3 4)), (.long x1)]) (f' := (12, [some (.ref 3), some (.long x1), none], [])) rfl (tX5_isAmong_10 (d + 0) n (I 3 4) x1 3 I J rv sp rr w nw (Or.inl rfl) o1598 eo1598) (fun v h hq => ?_)
    obtain ⟨rfl, rfl⟩ := hq
    by_cases h1599 : o1598 = 0 ∨ o1598 = 1
    case neg => rw [if_neg h1599] at e; cases e
    rw [if_pos h1599] at e
    cases e
    first | exact mm_T.retZ (v := some (.int o1598)) rfl h1599 ⟨rfl, rfl⟩ | exact mm_T.retZ (v := some (.int out)) rfl h1599 ⟨rfl, rfl⟩
  · unfold fX5_hasBoard at e
    refine mm_T.seg (f' := (4, [some (.ref 19), some (.long x1), none], [(.ref (19 + 10))])) (h' := (107, I, J, mm_rf rv sp rr w nw)) 2 rfl ?_
    refine mm_T.seg (f' := (9, [some (.ref 19), some (.long x1), none], [(.long x1), (.int (I 19 4)), (.ref (19 + 10))])) (h' := (107, I, J, mm_rf rv sp rr w nw)) 3 rfl ?_
    obtain ⟨o1598, eo1598, e⟩ := mm_bind e
    refine mm_T.call (t := 76) (as := [(.ref (19 + 10)), (.int (I 19 4)), (.long x1)]) (f' := (12, [some (.ref 19), some (.long x1), none], [])) rfl (tX5_isAmong_10 (d + 0) n (I 19 4) x1 19 I J rv sp rr w nw (Or.inr rfl) o1598 eo1598) (fun v h hq => ?_)
    obtain ⟨rfl, rfl⟩ := hq
    by_cases h1599 : o1598 = 0 ∨ o1598 = 1
    case neg => rw [if_neg h1599] at e; cases e
    rw [if_pos h1599] at e
    cases e
    first | exact mm_T.retZ (v := some (.int o1598)) rfl h1599 ⟨rfl, rfl⟩ | exact mm_T.retZ (v := some (.int out)) rfl h1599 ⟨rfl, rfl⟩
set_option maxRecDepth 100000 in
set_option maxHeartbeats 4000000 in
theorem tX4_isNewName (d n : Nat) (x1 : Int32) (I : Nat → Nat → Int32) (J : Nat → Nat → Int64) (rv sp rr w nw : Nat) (hrr : rr = 3 ∨ rr = 19) (out : Int32 × (Nat → Nat → Int32)) (e : fX4_isNewName n x1 I J rr = some out) : mm_T none (d + 2) 49 (mm_ent 49 [(.ref 16), (.int x1)]) (107, I, J, mm_rf rv sp rr w nw) (fun v h => v = some (.int out.1) ∧ h = (107, out.2, J, mm_rf rv sp rr w nw)) := by
  rcases hrr with rfl | rfl
  · unfold fX4_isNewName at e
    refine mm_T.seg (f' := (5, [some (.ref 16), some (.int x1), none], [(.int 1), (.int (I 16 5))])) (h' := (107, I, J, mm_rf rv sp 3 w nw)) 3 rfl ?_
    refine mm_T.br (c := (I 16 5) = 1) (a := ((8, [some (.ref 16), some (.int x1), none], []), (107, I, J, mm_rf rv sp 3 w nw))) (b := ((16, [some (.ref 16), some (.int x1), none], []), (107, I, J, mm_rf rv sp 3 w nw))) rfl (fun h1570 => ?_) (fun h1570 => ?_)
    · rw [if_pos h1570] at e
      refine mm_T.seg (f' := (13, [some (.ref 16), some (.int x1), none], [(.int (-1)), (.int (I 16 7))])) (h' := (107, I, J, mm_rf rv sp 3 w nw)) 3 rfl ?_
      refine mm_T.br (c := (I 16 7) = (-1)) (a := ((22, [some (.ref 16), some (.int x1), none], []), (107, I, J, mm_rf rv sp 3 w nw))) (b := ((16, [some (.ref 16), some (.int x1), none], []), (107, I, J, mm_rf rv sp 3 w nw))) rfl (fun h1571 => ?_) (fun h1571 => ?_)
      · rw [if_pos h1571] at e
        refine mm_T.seg (f' := (23, [some (.ref 16), some (.int x1), none], [(.int x1)])) (h' := (107, I, J, mm_rf rv sp 3 w nw)) 1 rfl ?_
        refine mm_T.br (c := x1 = 0) (a := ((40, [some (.ref 16), some (.int x1), none], []), (107, I, J, mm_rf rv sp 3 w nw))) (b := ((26, [some (.ref 16), some (.int x1), none], []), (107, I, J, mm_rf rv sp 3 w nw))) rfl (fun h1572 => ?_) (fun h1572 => ?_)
        · rw [if_pos h1572] at e
          refine mm_T.seg (f' := (44, [some (.ref 16), some (.int x1), none], [(.ref 3)])) (h' := (107, I, J, mm_rf rv sp 3 w nw)) 2 rfl ?_
          refine mm_T.seg (f' := (48, [some (.ref 16), some (.int x1), none], [(.long (J 16 8)), (.ref 3)])) (h' := (107, I, J, mm_rf rv sp 3 w nw)) 2 rfl ?_
          obtain ⟨o1585, eo1585, e⟩ := mm_bind e
          refine mm_T.call (t := 75) (as := [(.ref 3), (.long (J 16 8))]) (f' := (51, [some (.ref 16), some (.int x1), none], [])) rfl (tX5_hasLoad (d + 0) n (J 16 8) 3 I J rv sp 3 w nw (Or.inl rfl) o1585 eo1585) (fun v h hq => ?_)
          obtain ⟨rfl, rfl⟩ := hq
          refine mm_T.seg (f' := (53, [some (.ref 16), some (.int x1), some (.int o1585)], [(.int o1585)])) (h' := (107, I, J, mm_rf rv sp 3 w nw)) 2 rfl ?_
          refine mm_T.br (c := o1585 = 0) (a := ((64, [some (.ref 16), some (.int x1), some (.int o1585)], []), (107, I, J, mm_rf rv sp 3 w nw))) (b := ((56, [some (.ref 16), some (.int x1), some (.int o1585)], []), (107, I, J, mm_rf rv sp 3 w nw))) rfl (fun h1586 => ?_) (fun h1586 => ?_)
          · rw [if_pos h1586] at e
            refine mm_T.seg (f' := (69, [some (.ref 16), some (.int x1), some (.int o1585)], [(.int 1)])) (h' := (107, I, J, mm_rf rv sp 3 w nw)) 2 rfl ?_
            cases e
            exact mm_T.ret rfl ⟨rfl, rfl⟩
          · rw [if_neg h1586] at e
            refine mm_T.seg (f' := (58, [some (.ref 16), some (.int x1), some (.int o1585)], [(.int 3), (.ref 16)])) (h' := (107, I, J, mm_rf rv sp 3 w nw)) 2 rfl ?_
            obtain ⟨g230, hg230⟩ : ∃ z, fX4_refuse 3 I = z := ⟨_, rfl⟩
            try rw [hg230] at e
            refine mm_T.call (t := 30) (as := [(.ref 16), (.int 3)]) (f' := (61, [some (.ref 16), some (.int x1), some (.int o1585)], [])) rfl (tX4_refuse (d + 1) 3 I J rv sp 3 w nw g230 hg230) (fun v h hq => ?_)
            obtain ⟨rfl, rfl⟩ := hq
            refine mm_T.br (c := g230.1 = 0) (a := ((68, [some (.ref 16), some (.int x1), some (.int o1585)], []), (107, g230.2, J, mm_rf rv sp 3 w nw))) (b := ((64, [some (.ref 16), some (.int x1), some (.int o1585)], []), (107, g230.2, J, mm_rf rv sp 3 w nw))) rfl (fun h1587 => ?_) (fun h1587 => ?_)
            · rw [if_pos h1587] at e
              refine mm_T.seg (f' := (69, [some (.ref 16), some (.int x1), some (.int o1585)], [(.int 0)])) (h' := (107, g230.2, J, mm_rf rv sp 3 w nw)) 1 rfl ?_
              cases e
              exact mm_T.ret rfl ⟨rfl, rfl⟩
            · rw [if_neg h1587] at e
              refine mm_T.seg (f' := (69, [some (.ref 16), some (.int x1), some (.int o1585)], [(.int 1)])) (h' := (107, g230.2, J, mm_rf rv sp 3 w nw)) 2 rfl ?_
              cases e
              exact mm_T.ret rfl ⟨rfl, rfl⟩
        · rw [if_neg h1572] at e
          refine mm_T.seg (f' := (30, [some (.ref 16), some (.int x1), none], [(.ref 3)])) (h' := (107, I, J, mm_rf rv sp 3 w nw)) 2 rfl ?_
          refine mm_T.seg (f' := (34, [some (.ref 16), some (.int x1), none], [(.long (J 16 8)), (.ref 3)])) (h' := (107, I, J, mm_rf rv sp 3 w nw)) 2 rfl ?_
          obtain ⟨o1600, eo1600, e⟩ := mm_bind e
          refine mm_T.call (t := 74) (as := [(.ref 3), (.long (J 16 8))]) (f' := (37, [some (.ref 16), some (.int x1), none], [])) rfl (tX5_hasBoard (d + 0) n (J 16 8) 3 I J rv sp 3 w nw (Or.inl rfl) o1600 eo1600) (fun v h hq => ?_)
          obtain ⟨rfl, rfl⟩ := hq
          refine mm_T.seg (f' := (53, [some (.ref 16), some (.int x1), some (.int o1600)], [(.int o1600)])) (h' := (107, I, J, mm_rf rv sp 3 w nw)) 3 rfl ?_
          refine mm_T.br (c := o1600 = 0) (a := ((64, [some (.ref 16), some (.int x1), some (.int o1600)], []), (107, I, J, mm_rf rv sp 3 w nw))) (b := ((56, [some (.ref 16), some (.int x1), some (.int o1600)], []), (107, I, J, mm_rf rv sp 3 w nw))) rfl (fun h1601 => ?_) (fun h1601 => ?_)
          · rw [if_pos h1601] at e
            refine mm_T.seg (f' := (69, [some (.ref 16), some (.int x1), some (.int o1600)], [(.int 1)])) (h' := (107, I, J, mm_rf rv sp 3 w nw)) 2 rfl ?_
            cases e
            exact mm_T.ret rfl ⟨rfl, rfl⟩
          · rw [if_neg h1601] at e
            refine mm_T.seg (f' := (58, [some (.ref 16), some (.int x1), some (.int o1600)], [(.int 3), (.ref 16)])) (h' := (107, I, J, mm_rf rv sp 3 w nw)) 2 rfl ?_
            obtain ⟨g231, hg231⟩ : ∃ z, fX4_refuse 3 I = z := ⟨_, rfl⟩
            try rw [hg231] at e
            refine mm_T.call (t := 30) (as := [(.ref 16), (.int 3)]) (f' := (61, [some (.ref 16), some (.int x1), some (.int o1600)], [])) rfl (tX4_refuse (d + 1) 3 I J rv sp 3 w nw g231 hg231) (fun v h hq => ?_)
            obtain ⟨rfl, rfl⟩ := hq
            refine mm_T.br (c := g231.1 = 0) (a := ((68, [some (.ref 16), some (.int x1), some (.int o1600)], []), (107, g231.2, J, mm_rf rv sp 3 w nw))) (b := ((64, [some (.ref 16), some (.int x1), some (.int o1600)], []), (107, g231.2, J, mm_rf rv sp 3 w nw))) rfl (fun h1602 => ?_) (fun h1602 => ?_)
            · rw [if_pos h1602] at e
              refine mm_T.seg (f' := (69, [some (.ref 16), some (.int x1), some (.int o1600)], [(.int 0)])) (h' := (107, g231.2, J, mm_rf rv sp 3 w nw)) 1 rfl ?_
              cases e
              exact mm_T.ret rfl ⟨rfl, rfl⟩
            · rw [if_neg h1602] at e
              refine mm_T.seg (f' := (69, [some (.ref 16), some (.int x1), some (.int o1600)], [(.int 1)])) (h' := (107, g231.2, J, mm_rf rv sp 3 w nw)) 2 rfl ?_
              cases e
              exact mm_T.ret rfl ⟨rfl, rfl⟩
      · rw [if_neg h1571] at e
        refine mm_T.seg (f' := (18, [some (.ref 16), some (.int x1), none], [(.int 2), (.ref 16)])) (h' := (107, I, J, mm_rf rv sp 3 w nw)) 2 rfl ?_
        obtain ⟨g232, hg232⟩ : ∃ z, fX4_refuse 2 I = z := ⟨_, rfl⟩
        try rw [hg232] at e
        refine mm_T.call (t := 30) (as := [(.ref 16), (.int 2)]) (f' := (21, [some (.ref 16), some (.int x1), none], [])) rfl (tX4_refuse (d + 1) 2 I J rv sp 3 w nw g232 hg232) (fun v h hq => ?_)
        obtain ⟨rfl, rfl⟩ := hq
        by_cases h1603 : g232.1 = 0 ∨ g232.1 = 1
        case neg => rw [if_neg h1603] at e; cases e
        rw [if_pos h1603] at e
        cases e
        first | exact mm_T.retZ (v := some (.int g232.1)) rfl h1603 ⟨rfl, rfl⟩ | exact mm_T.retZ (v := some (.int out)) rfl h1603 ⟨rfl, rfl⟩
    · rw [if_neg h1570] at e
      refine mm_T.seg (f' := (18, [some (.ref 16), some (.int x1), none], [(.int 2), (.ref 16)])) (h' := (107, I, J, mm_rf rv sp 3 w nw)) 2 rfl ?_
      obtain ⟨g233, hg233⟩ : ∃ z, fX4_refuse 2 I = z := ⟨_, rfl⟩
      try rw [hg233] at e
      refine mm_T.call (t := 30) (as := [(.ref 16), (.int 2)]) (f' := (21, [some (.ref 16), some (.int x1), none], [])) rfl (tX4_refuse (d + 1) 2 I J rv sp 3 w nw g233 hg233) (fun v h hq => ?_)
      obtain ⟨rfl, rfl⟩ := hq
      by_cases h1604 : g233.1 = 0 ∨ g233.1 = 1
      case neg => rw [if_neg h1604] at e; cases e
      rw [if_pos h1604] at e
      cases e
      first | exact mm_T.retZ (v := some (.int g233.1)) rfl h1604 ⟨rfl, rfl⟩ | exact mm_T.retZ (v := some (.int out)) rfl h1604 ⟨rfl, rfl⟩
  · unfold fX4_isNewName at e
    refine mm_T.seg (f' := (5, [some (.ref 16), some (.int x1), none], [(.int 1), (.int (I 16 5))])) (h' := (107, I, J, mm_rf rv sp 19 w nw)) 3 rfl ?_
    refine mm_T.br (c := (I 16 5) = 1) (a := ((8, [some (.ref 16), some (.int x1), none], []), (107, I, J, mm_rf rv sp 19 w nw))) (b := ((16, [some (.ref 16), some (.int x1), none], []), (107, I, J, mm_rf rv sp 19 w nw))) rfl (fun h1570 => ?_) (fun h1570 => ?_)
    · rw [if_pos h1570] at e
      refine mm_T.seg (f' := (13, [some (.ref 16), some (.int x1), none], [(.int (-1)), (.int (I 16 7))])) (h' := (107, I, J, mm_rf rv sp 19 w nw)) 3 rfl ?_
      refine mm_T.br (c := (I 16 7) = (-1)) (a := ((22, [some (.ref 16), some (.int x1), none], []), (107, I, J, mm_rf rv sp 19 w nw))) (b := ((16, [some (.ref 16), some (.int x1), none], []), (107, I, J, mm_rf rv sp 19 w nw))) rfl (fun h1571 => ?_) (fun h1571 => ?_)
      · rw [if_pos h1571] at e
        refine mm_T.seg (f' := (23, [some (.ref 16), some (.int x1), none], [(.int x1)])) (h' := (107, I, J, mm_rf rv sp 19 w nw)) 1 rfl ?_
        refine mm_T.br (c := x1 = 0) (a := ((40, [some (.ref 16), some (.int x1), none], []), (107, I, J, mm_rf rv sp 19 w nw))) (b := ((26, [some (.ref 16), some (.int x1), none], []), (107, I, J, mm_rf rv sp 19 w nw))) rfl (fun h1572 => ?_) (fun h1572 => ?_)
        · rw [if_pos h1572] at e
          refine mm_T.seg (f' := (44, [some (.ref 16), some (.int x1), none], [(.ref 19)])) (h' := (107, I, J, mm_rf rv sp 19 w nw)) 2 rfl ?_
          refine mm_T.seg (f' := (48, [some (.ref 16), some (.int x1), none], [(.long (J 16 8)), (.ref 19)])) (h' := (107, I, J, mm_rf rv sp 19 w nw)) 2 rfl ?_
          obtain ⟨o1585, eo1585, e⟩ := mm_bind e
          refine mm_T.call (t := 75) (as := [(.ref 19), (.long (J 16 8))]) (f' := (51, [some (.ref 16), some (.int x1), none], [])) rfl (tX5_hasLoad (d + 0) n (J 16 8) 19 I J rv sp 19 w nw (Or.inr rfl) o1585 eo1585) (fun v h hq => ?_)
          obtain ⟨rfl, rfl⟩ := hq
          refine mm_T.seg (f' := (53, [some (.ref 16), some (.int x1), some (.int o1585)], [(.int o1585)])) (h' := (107, I, J, mm_rf rv sp 19 w nw)) 2 rfl ?_
          refine mm_T.br (c := o1585 = 0) (a := ((64, [some (.ref 16), some (.int x1), some (.int o1585)], []), (107, I, J, mm_rf rv sp 19 w nw))) (b := ((56, [some (.ref 16), some (.int x1), some (.int o1585)], []), (107, I, J, mm_rf rv sp 19 w nw))) rfl (fun h1586 => ?_) (fun h1586 => ?_)
          · rw [if_pos h1586] at e
            refine mm_T.seg (f' := (69, [some (.ref 16), some (.int x1), some (.int o1585)], [(.int 1)])) (h' := (107, I, J, mm_rf rv sp 19 w nw)) 2 rfl ?_
            cases e
            exact mm_T.ret rfl ⟨rfl, rfl⟩
          · rw [if_neg h1586] at e
            refine mm_T.seg (f' := (58, [some (.ref 16), some (.int x1), some (.int o1585)], [(.int 3), (.ref 16)])) (h' := (107, I, J, mm_rf rv sp 19 w nw)) 2 rfl ?_
            obtain ⟨g230, hg230⟩ : ∃ z, fX4_refuse 3 I = z := ⟨_, rfl⟩
            try rw [hg230] at e
            refine mm_T.call (t := 30) (as := [(.ref 16), (.int 3)]) (f' := (61, [some (.ref 16), some (.int x1), some (.int o1585)], [])) rfl (tX4_refuse (d + 1) 3 I J rv sp 19 w nw g230 hg230) (fun v h hq => ?_)
            obtain ⟨rfl, rfl⟩ := hq
            refine mm_T.br (c := g230.1 = 0) (a := ((68, [some (.ref 16), some (.int x1), some (.int o1585)], []), (107, g230.2, J, mm_rf rv sp 19 w nw))) (b := ((64, [some (.ref 16), some (.int x1), some (.int o1585)], []), (107, g230.2, J, mm_rf rv sp 19 w nw))) rfl (fun h1587 => ?_) (fun h1587 => ?_)
            · rw [if_pos h1587] at e
              refine mm_T.seg (f' := (69, [some (.ref 16), some (.int x1), some (.int o1585)], [(.int 0)])) (h' := (107, g230.2, J, mm_rf rv sp 19 w nw)) 1 rfl ?_
              cases e
              exact mm_T.ret rfl ⟨rfl, rfl⟩
            · rw [if_neg h1587] at e
              refine mm_T.seg (f' := (69, [some (.ref 16), some (.int x1), some (.int o1585)], [(.int 1)])) (h' := (107, g230.2, J, mm_rf rv sp 19 w nw)) 2 rfl ?_
              cases e
              exact mm_T.ret rfl ⟨rfl, rfl⟩
        · rw [if_neg h1572] at e
          refine mm_T.seg (f' := (30, [some (.ref 16), some (.int x1), none], [(.ref 19)])) (h' := (107, I, J, mm_rf rv sp 19 w nw)) 2 rfl ?_
          refine mm_T.seg (f' := (34, [some (.ref 16), some (.int x1), none], [(.long (J 16 8)), (.ref 19)])) (h' := (107, I, J, mm_rf rv sp 19 w nw)) 2 rfl ?_
          obtain ⟨o1600, eo1600, e⟩ := mm_bind e
          refine mm_T.call (t := 74) (as := [(.ref 19), (.long (J 16 8))]) (f' := (37, [some (.ref 16), some (.int x1), none], [])) rfl (tX5_hasBoard (d + 0) n (J 16 8) 19 I J rv sp 19 w nw (Or.inr rfl) o1600 eo1600) (fun v h hq => ?_)
          obtain ⟨rfl, rfl⟩ := hq
          refine mm_T.seg (f' := (53, [some (.ref 16), some (.int x1), some (.int o1600)], [(.int o1600)])) (h' := (107, I, J, mm_rf rv sp 19 w nw)) 3 rfl ?_
          refine mm_T.br (c := o1600 = 0) (a := ((64, [some (.ref 16), some (.int x1), some (.int o1600)], []), (107, I, J, mm_rf rv sp 19 w nw))) (b := ((56, [some (.ref 16), some (.int x1), some (.int o1600)], []), (107, I, J, mm_rf rv sp 19 w nw))) rfl (fun h1601 => ?_) (fun h1601 => ?_)
          · rw [if_pos h1601] at e
            refine mm_T.seg (f' := (69, [some (.ref 16), some (.int x1), some (.int o1600)], [(.int 1)])) (h' := (107, I, J, mm_rf rv sp 19 w nw)) 2 rfl ?_
            cases e
            exact mm_T.ret rfl ⟨rfl, rfl⟩
          · rw [if_neg h1601] at e
            refine mm_T.seg (f' := (58, [some (.ref 16), some (.int x1), some (.int o1600)], [(.int 3), (.ref 16)])) (h' := (107, I, J, mm_rf rv sp 19 w nw)) 2 rfl ?_
            obtain ⟨g231, hg231⟩ : ∃ z, fX4_refuse 3 I = z := ⟨_, rfl⟩
            try rw [hg231] at e
            refine mm_T.call (t := 30) (as := [(.ref 16), (.int 3)]) (f' := (61, [some (.ref 16), some (.int x1), some (.int o1600)], [])) rfl (tX4_refuse (d + 1) 3 I J rv sp 19 w nw g231 hg231) (fun v h hq => ?_)
            obtain ⟨rfl, rfl⟩ := hq
            refine mm_T.br (c := g231.1 = 0) (a := ((68, [some (.ref 16), some (.int x1), some (.int o1600)], []), (107, g231.2, J, mm_rf rv sp 19 w nw))) (b := ((64, [some (.ref 16), some (.int x1), some (.int o1600)], []), (107, g231.2, J, mm_rf rv sp 19 w nw))) rfl (fun h1602 => ?_) (fun h1602 => ?_)
            · rw [if_pos h1602] at e
              refine mm_T.seg (f' := (69, [some (.ref 16), some (.int x1), some (.int o1600)], [(.int 0)])) (h' := (107, g231.2, J, mm_rf rv sp 19 w nw)) 1 rfl ?_
              cases e
              exact mm_T.ret rfl ⟨rfl, rfl⟩
            · rw [if_neg h1602] at e
              refine mm_T.seg (f' := (69, [some (.ref 16), some (.int x1), some (.int o1600)], [(.int 1)])) (h' := (107, g231.2, J, mm_rf rv sp 19 w nw)) 2 rfl ?_
              cases e
              exact mm_T.ret rfl ⟨rfl, rfl⟩
      · rw [if_neg h1571] at e
        refine mm_T.seg (f' := (18, [some (.ref 16), some (.int x1), none], [(.int 2), (.ref 16)])) (h' := (107, I, J, mm_rf rv sp 19 w nw)) 2 rfl ?_
        obtain ⟨g232, hg232⟩ : ∃ z, fX4_refuse 2 I = z := ⟨_, rfl⟩
        try rw [hg232] at e
        refine mm_T.call (t := 30) (as := [(.ref 16), (.int 2)]) (f' := (21, [some (.ref 16), some (.int x1), none], [])) rfl (tX4_refuse (d + 1) 2 I J rv sp 19 w nw g232 hg232) (fun v h hq => ?_)
        obtain ⟨rfl, rfl⟩ := hq
        by_cases h1603 : g232.1 = 0 ∨ g232.1 = 1
        case neg => rw [if_neg h1603] at e; cases e
        rw [if_pos h1603] at e
        cases e
        first | exact mm_T.retZ (v := some (.int g232.1)) rfl h1603 ⟨rfl, rfl⟩ | exact mm_T.retZ (v := some (.int out)) rfl h1603 ⟨rfl, rfl⟩
    · rw [if_neg h1570] at e
      refine mm_T.seg (f' := (18, [some (.ref 16), some (.int x1), none], [(.int 2), (.ref 16)])) (h' := (107, I, J, mm_rf rv sp 19 w nw)) 2 rfl ?_
      obtain ⟨g233, hg233⟩ : ∃ z, fX4_refuse 2 I = z := ⟨_, rfl⟩
      try rw [hg233] at e
      refine mm_T.call (t := 30) (as := [(.ref 16), (.int 2)]) (f' := (21, [some (.ref 16), some (.int x1), none], [])) rfl (tX4_refuse (d + 1) 2 I J rv sp 19 w nw g233 hg233) (fun v h hq => ?_)
      obtain ⟨rfl, rfl⟩ := hq
      by_cases h1604 : g233.1 = 0 ∨ g233.1 = 1
      case neg => rw [if_neg h1604] at e; cases e
      rw [if_pos h1604] at e
      cases e
      first | exact mm_T.retZ (v := some (.int g233.1)) rfl h1604 ⟨rfl, rfl⟩ | exact mm_T.retZ (v := some (.int out)) rfl h1604 ⟨rfl, rfl⟩
set_option maxRecDepth 100000 in
set_option maxHeartbeats 4000000 in
theorem tX5_addBoard (d : Nat) (x1 : Int64) (x3 : Int32) (x4 : Int32) (x5 : Int32) (r : Nat) (I : Nat → Nat → Int32) (J : Nat → Nat → Int64) (rv sp rr w nw : Nat) (hr : r = 3 ∨ r = 19) (out : (Nat → Nat → Int32) × (Nat → Nat → Int64)) (e : fX5_addBoard x1 x3 x4 x5 r I J = some out) : mm_T none (d + 1) 72 (mm_ent 72 [(.ref r), (.long x1), (.int x3), (.int x4), (.int x5)]) (107, I, J, mm_rf rv sp rr w nw) (fun v h => v = none ∧ h = (107, out.1, out.2, mm_rf rv sp rr w nw)) := by
  rcases hr with rfl | rfl
  · unfold fX5_addBoard at e
    refine mm_T.seg (f' := (5, [some (.ref 3), some (.long x1), none, some (.int x3), some (.int x4), some (.int x5)], [(.int 4), (.int (I 3 4))])) (h' := (107, I, J, mm_rf rv sp rr w nw)) 3 rfl ?_
    refine mm_T.br (c := (I 3 4) < 4) (a := ((8, [some (.ref 3), some (.long x1), none, some (.int x3), some (.int x4), some (.int x5)], []), (107, I, J, mm_rf rv sp rr w nw))) (b := ((66, [some (.ref 3), some (.long x1), none, some (.int x3), some (.int x4), some (.int x5)], []), (107, I, J, mm_rf rv sp rr w nw))) rfl (fun h1617 => ?_) (fun h1617 => ?_)
    · rw [if_pos h1617] at e
      refine mm_T.seg (f' := (12, [some (.ref 3), some (.long x1), none, some (.int x3), some (.int x4), some (.int x5)], [(.ref (3 + 10))])) (h' := (107, I, J, mm_rf rv sp rr w nw)) 2 rfl ?_
      refine mm_T.seg (f' := (17, [some (.ref 3), some (.long x1), none, some (.int x3), some (.int x4), some (.int x5)], [(.long x1), (.int (I 3 4)), (.ref (3 + 10))])) (h' := (107, I, J, mm_rf rv sp rr w nw)) 3 rfl ?_
      by_cases h1618 : (I 3 4) < 0 ∨ 4 ≤ (I 3 4).toNatClampNeg
      · rw [if_pos h1618] at e; cases e
      rw [if_neg h1618] at e
      refine mm_T.guard (y := ((18, [some (.ref 3), some (.long x1), none, some (.int x3), some (.int x4), some (.int x5)], []), (107, I, (mm_up J (3 + 10) (I 3 4).toNatClampNeg x1), mm_rf rv sp rr w nw))) rfl h1618 ?_
      refine mm_T.seg (f' := (22, [some (.ref 3), some (.long x1), none, some (.int x3), some (.int x4), some (.int x5)], [(.ref (3 + 7))])) (h' := (107, I, (mm_up J (3 + 10) (I 3 4).toNatClampNeg x1), mm_rf rv sp rr w nw)) 2 rfl ?_
      refine mm_T.seg (f' := (27, [some (.ref 3), some (.long x1), none, some (.int x3), some (.int x4), some (.int x5)], [(.int x3), (.int (I 3 4)), (.ref (3 + 7))])) (h' := (107, I, (mm_up J (3 + 10) (I 3 4).toNatClampNeg x1), mm_rf rv sp rr w nw)) 3 rfl ?_
      refine mm_T.call (t := 205) (as := [(.ref (3 + 7)), (.int (I 3 4)), (.int x3)]) (f' := (30, [some (.ref 3), some (.long x1), none, some (.int x3), some (.int x4), some (.int x5)], [])) rfl (t_put _ (3 + 7) 4 (I 3 4) x3 I (mm_up J (3 + 10) (I 3 4).toNatClampNeg x1) (mm_rf rv sp rr w nw) rfl rfl) (fun v h hq => ?_)
      obtain ⟨rfl, rfl⟩ := hq
      refine mm_T.seg (f' := (34, [some (.ref 3), some (.long x1), none, some (.int x3), some (.int x4), some (.int x5)], [(.ref (3 + 8))])) (h' := (107, (mf_put I (3 + 7) 4 (I 3 4) x3), (mm_up J (3 + 10) (I 3 4).toNatClampNeg x1), mm_rf rv sp rr w nw)) 2 rfl ?_
      refine mm_T.seg (f' := (40, [some (.ref 3), some (.long x1), none, some (.int x3), some (.int x4), some (.int x5)], [(.int x4), (.int ((mf_put I (3 + 7) 4 (I 3 4) x3) 3 4)), (.ref (3 + 8))])) (h' := (107, (mf_put I (3 + 7) 4 (I 3 4) x3), (mm_up J (3 + 10) (I 3 4).toNatClampNeg x1), mm_rf rv sp rr w nw)) 3 rfl ?_
      refine mm_T.call (t := 205) (as := [(.ref (3 + 8)), (.int ((mf_put I (3 + 7) 4 (I 3 4) x3) 3 4)), (.int x4)]) (f' := (43, [some (.ref 3), some (.long x1), none, some (.int x3), some (.int x4), some (.int x5)], [])) rfl (t_put _ (3 + 8) 4 ((mf_put I (3 + 7) 4 (I 3 4) x3) 3 4) x4 (mf_put I (3 + 7) 4 (I 3 4) x3) (mm_up J (3 + 10) (I 3 4).toNatClampNeg x1) (mm_rf rv sp rr w nw) rfl rfl) (fun v h hq => ?_)
      obtain ⟨rfl, rfl⟩ := hq
      refine mm_T.seg (f' := (47, [some (.ref 3), some (.long x1), none, some (.int x3), some (.int x4), some (.int x5)], [(.ref (3 + 9))])) (h' := (107, (mf_put (mf_put I (3 + 7) 4 (I 3 4) x3) (3 + 8) 4 ((mf_put I (3 + 7) 4 (I 3 4) x3) 3 4) x4), (mm_up J (3 + 10) (I 3 4).toNatClampNeg x1), mm_rf rv sp rr w nw)) 2 rfl ?_
      refine mm_T.seg (f' := (53, [some (.ref 3), some (.long x1), none, some (.int x3), some (.int x4), some (.int x5)], [(.int x5), (.int ((mf_put (mf_put I (3 + 7) 4 (I 3 4) x3) (3 + 8) 4 ((mf_put I (3 + 7) 4 (I 3 4) x3) 3 4) x4) 3 4)), (.ref (3 + 9))])) (h' := (107, (mf_put (mf_put I (3 + 7) 4 (I 3 4) x3) (3 + 8) 4 ((mf_put I (3 + 7) 4 (I 3 4) x3) 3 4) x4), (mm_up J (3 + 10) (I 3 4).toNatClampNeg x1), mm_rf rv sp rr w nw)) 3 rfl ?_
      refine mm_T.call (t := 205) (as := [(.ref (3 + 9)), (.int ((mf_put (mf_put I (3 + 7) 4 (I 3 4) x3) (3 + 8) 4 ((mf_put I (3 + 7) 4 (I 3 4) x3) 3 4) x4) 3 4)), (.int x5)]) (f' := (56, [some (.ref 3), some (.long x1), none, some (.int x3), some (.int x4), some (.int x5)], [])) rfl (t_put _ (3 + 9) 4 ((mf_put (mf_put I (3 + 7) 4 (I 3 4) x3) (3 + 8) 4 ((mf_put I (3 + 7) 4 (I 3 4) x3) 3 4) x4) 3 4) x5 (mf_put (mf_put I (3 + 7) 4 (I 3 4) x3) (3 + 8) 4 ((mf_put I (3 + 7) 4 (I 3 4) x3) 3 4) x4) (mm_up J (3 + 10) (I 3 4).toNatClampNeg x1) (mm_rf rv sp rr w nw) rfl rfl) (fun v h hq => ?_)
      obtain ⟨rfl, rfl⟩ := hq
      refine mm_T.seg (f' := (66, [some (.ref 3), some (.long x1), none, some (.int x3), some (.int x4), some (.int x5)], [])) (h' := (107, (mm_up (mf_put (mf_put (mf_put I (3 + 7) 4 (I 3 4) x3) (3 + 8) 4 ((mf_put I (3 + 7) 4 (I 3 4) x3) 3 4) x4) (3 + 9) 4 ((mf_put (mf_put I (3 + 7) 4 (I 3 4) x3) (3 + 8) 4 ((mf_put I (3 + 7) 4 (I 3 4) x3) 3 4) x4) 3 4) x5) 3 4 (((mf_put (mf_put (mf_put I (3 + 7) 4 (I 3 4) x3) (3 + 8) 4 ((mf_put I (3 + 7) 4 (I 3 4) x3) 3 4) x4) (3 + 9) 4 ((mf_put (mf_put I (3 + 7) 4 (I 3 4) x3) (3 + 8) 4 ((mf_put I (3 + 7) 4 (I 3 4) x3) 3 4) x4) 3 4) x5) 3 4) + 1)), (mm_up J (3 + 10) (I 3 4).toNatClampNeg x1), mm_rf rv sp rr w nw)) 6 rfl ?_
      cases e
      exact mm_T.ret rfl ⟨rfl, rfl⟩
    · rw [if_neg h1617] at e
      cases e
      exact mm_T.ret rfl ⟨rfl, rfl⟩
  · unfold fX5_addBoard at e
    refine mm_T.seg (f' := (5, [some (.ref 19), some (.long x1), none, some (.int x3), some (.int x4), some (.int x5)], [(.int 4), (.int (I 19 4))])) (h' := (107, I, J, mm_rf rv sp rr w nw)) 3 rfl ?_
    refine mm_T.br (c := (I 19 4) < 4) (a := ((8, [some (.ref 19), some (.long x1), none, some (.int x3), some (.int x4), some (.int x5)], []), (107, I, J, mm_rf rv sp rr w nw))) (b := ((66, [some (.ref 19), some (.long x1), none, some (.int x3), some (.int x4), some (.int x5)], []), (107, I, J, mm_rf rv sp rr w nw))) rfl (fun h1617 => ?_) (fun h1617 => ?_)
    · rw [if_pos h1617] at e
      refine mm_T.seg (f' := (12, [some (.ref 19), some (.long x1), none, some (.int x3), some (.int x4), some (.int x5)], [(.ref (19 + 10))])) (h' := (107, I, J, mm_rf rv sp rr w nw)) 2 rfl ?_
      refine mm_T.seg (f' := (17, [some (.ref 19), some (.long x1), none, some (.int x3), some (.int x4), some (.int x5)], [(.long x1), (.int (I 19 4)), (.ref (19 + 10))])) (h' := (107, I, J, mm_rf rv sp rr w nw)) 3 rfl ?_
      by_cases h1618 : (I 19 4) < 0 ∨ 4 ≤ (I 19 4).toNatClampNeg
      · rw [if_pos h1618] at e; cases e
      rw [if_neg h1618] at e
      refine mm_T.guard (y := ((18, [some (.ref 19), some (.long x1), none, some (.int x3), some (.int x4), some (.int x5)], []), (107, I, (mm_up J (19 + 10) (I 19 4).toNatClampNeg x1), mm_rf rv sp rr w nw))) rfl h1618 ?_
      refine mm_T.seg (f' := (22, [some (.ref 19), some (.long x1), none, some (.int x3), some (.int x4), some (.int x5)], [(.ref (19 + 7))])) (h' := (107, I, (mm_up J (19 + 10) (I 19 4).toNatClampNeg x1), mm_rf rv sp rr w nw)) 2 rfl ?_
      refine mm_T.seg (f' := (27, [some (.ref 19), some (.long x1), none, some (.int x3), some (.int x4), some (.int x5)], [(.int x3), (.int (I 19 4)), (.ref (19 + 7))])) (h' := (107, I, (mm_up J (19 + 10) (I 19 4).toNatClampNeg x1), mm_rf rv sp rr w nw)) 3 rfl ?_
      refine mm_T.call (t := 205) (as := [(.ref (19 + 7)), (.int (I 19 4)), (.int x3)]) (f' := (30, [some (.ref 19), some (.long x1), none, some (.int x3), some (.int x4), some (.int x5)], [])) rfl (t_put _ (19 + 7) 4 (I 19 4) x3 I (mm_up J (19 + 10) (I 19 4).toNatClampNeg x1) (mm_rf rv sp rr w nw) rfl rfl) (fun v h hq => ?_)
      obtain ⟨rfl, rfl⟩ := hq
      refine mm_T.seg (f' := (34, [some (.ref 19), some (.long x1), none, some (.int x3), some (.int x4), some (.int x5)], [(.ref (19 + 8))])) (h' := (107, (mf_put I (19 + 7) 4 (I 19 4) x3), (mm_up J (19 + 10) (I 19 4).toNatClampNeg x1), mm_rf rv sp rr w nw)) 2 rfl ?_
      refine mm_T.seg (f' := (40, [some (.ref 19), some (.long x1), none, some (.int x3), some (.int x4), some (.int x5)], [(.int x4), (.int ((mf_put I (19 + 7) 4 (I 19 4) x3) 19 4)), (.ref (19 + 8))])) (h' := (107, (mf_put I (19 + 7) 4 (I 19 4) x3), (mm_up J (19 + 10) (I 19 4).toNatClampNeg x1), mm_rf rv sp rr w nw)) 3 rfl ?_
      refine mm_T.call (t := 205) (as := [(.ref (19 + 8)), (.int ((mf_put I (19 + 7) 4 (I 19 4) x3) 19 4)), (.int x4)]) (f' := (43, [some (.ref 19), some (.long x1), none, some (.int x3), some (.int x4), some (.int x5)], [])) rfl (t_put _ (19 + 8) 4 ((mf_put I (19 + 7) 4 (I 19 4) x3) 19 4) x4 (mf_put I (19 + 7) 4 (I 19 4) x3) (mm_up J (19 + 10) (I 19 4).toNatClampNeg x1) (mm_rf rv sp rr w nw) rfl rfl) (fun v h hq => ?_)
      obtain ⟨rfl, rfl⟩ := hq
      refine mm_T.seg (f' := (47, [some (.ref 19), some (.long x1), none, some (.int x3), some (.int x4), some (.int x5)], [(.ref (19 + 9))])) (h' := (107, (mf_put (mf_put I (19 + 7) 4 (I 19 4) x3) (19 + 8) 4 ((mf_put I (19 + 7) 4 (I 19 4) x3) 19 4) x4), (mm_up J (19 + 10) (I 19 4).toNatClampNeg x1), mm_rf rv sp rr w nw)) 2 rfl ?_
      refine mm_T.seg (f' := (53, [some (.ref 19), some (.long x1), none, some (.int x3), some (.int x4), some (.int x5)], [(.int x5), (.int ((mf_put (mf_put I (19 + 7) 4 (I 19 4) x3) (19 + 8) 4 ((mf_put I (19 + 7) 4 (I 19 4) x3) 19 4) x4) 19 4)), (.ref (19 + 9))])) (h' := (107, (mf_put (mf_put I (19 + 7) 4 (I 19 4) x3) (19 + 8) 4 ((mf_put I (19 + 7) 4 (I 19 4) x3) 19 4) x4), (mm_up J (19 + 10) (I 19 4).toNatClampNeg x1), mm_rf rv sp rr w nw)) 3 rfl ?_
      refine mm_T.call (t := 205) (as := [(.ref (19 + 9)), (.int ((mf_put (mf_put I (19 + 7) 4 (I 19 4) x3) (19 + 8) 4 ((mf_put I (19 + 7) 4 (I 19 4) x3) 19 4) x4) 19 4)), (.int x5)]) (f' := (56, [some (.ref 19), some (.long x1), none, some (.int x3), some (.int x4), some (.int x5)], [])) rfl (t_put _ (19 + 9) 4 ((mf_put (mf_put I (19 + 7) 4 (I 19 4) x3) (19 + 8) 4 ((mf_put I (19 + 7) 4 (I 19 4) x3) 19 4) x4) 19 4) x5 (mf_put (mf_put I (19 + 7) 4 (I 19 4) x3) (19 + 8) 4 ((mf_put I (19 + 7) 4 (I 19 4) x3) 19 4) x4) (mm_up J (19 + 10) (I 19 4).toNatClampNeg x1) (mm_rf rv sp rr w nw) rfl rfl) (fun v h hq => ?_)
      obtain ⟨rfl, rfl⟩ := hq
      refine mm_T.seg (f' := (66, [some (.ref 19), some (.long x1), none, some (.int x3), some (.int x4), some (.int x5)], [])) (h' := (107, (mm_up (mf_put (mf_put (mf_put I (19 + 7) 4 (I 19 4) x3) (19 + 8) 4 ((mf_put I (19 + 7) 4 (I 19 4) x3) 19 4) x4) (19 + 9) 4 ((mf_put (mf_put I (19 + 7) 4 (I 19 4) x3) (19 + 8) 4 ((mf_put I (19 + 7) 4 (I 19 4) x3) 19 4) x4) 19 4) x5) 19 4 (((mf_put (mf_put (mf_put I (19 + 7) 4 (I 19 4) x3) (19 + 8) 4 ((mf_put I (19 + 7) 4 (I 19 4) x3) 19 4) x4) (19 + 9) 4 ((mf_put (mf_put I (19 + 7) 4 (I 19 4) x3) (19 + 8) 4 ((mf_put I (19 + 7) 4 (I 19 4) x3) 19 4) x4) 19 4) x5) 19 4) + 1)), (mm_up J (19 + 10) (I 19 4).toNatClampNeg x1), mm_rf rv sp rr w nw)) 6 rfl ?_
      cases e
      exact mm_T.ret rfl ⟨rfl, rfl⟩
    · rw [if_neg h1617] at e
      cases e
      exact mm_T.ret rfl ⟨rfl, rfl⟩
set_option maxRecDepth 100000 in
set_option maxHeartbeats 4000000 in
theorem tbX4_readBoard_J54 (d : Nat) (I : Nat → Nat → Int32) (J : Nat → Nat → Int64) (rv sp rr w nw : Nat) (out : Int32 × (Nat → Nat → Int32) × (Nat → Nat → Int64)) (e : fX4_readBoard_J54 I J = some out) : mm_T none (d + 6) 50 (54, [none, none, none, none, none, none], []) (107, I, J, mm_rf rv sp rr w nw) (fun v h => v = some (.int out.1) ∧ h = (107, out.2.1, out.2.2, mm_rf rv sp rr w nw)) := by
  unfold fX4_readBoard_J54 at e
  refine mm_T.seg (f' := (55, [none, none, none, none, none, none], [(.int 0)])) (h' := (107, I, J, mm_rf rv sp rr w nw)) 1 rfl ?_
  cases e
  exact mm_T.ret rfl ⟨rfl, rfl⟩
set_option maxRecDepth 100000 in
set_option maxHeartbeats 4000000 in
theorem tbX4_readBoard_J116 (d : Nat) (I : Nat → Nat → Int32) (J : Nat → Nat → Int64) (rv sp rr w nw : Nat) (out : Int32 × (Nat → Nat → Int32) × (Nat → Nat → Int64)) (e : fX4_readBoard_J116 I J = some out) : mm_T none (d + 6) 50 (116, [none, none, none, none, none, none], []) (107, I, J, mm_rf rv sp rr w nw) (fun v h => v = some (.int out.1) ∧ h = (107, out.2.1, out.2.2, mm_rf rv sp rr w nw)) := by
  unfold fX4_readBoard_J116 at e
  refine mm_T.seg (f' := (117, [none, none, none, none, none, none], [(.int 0)])) (h' := (107, I, J, mm_rf rv sp rr w nw)) 1 rfl ?_
  cases e
  exact mm_T.ret rfl ⟨rfl, rfl⟩
set_option maxRecDepth 100000 in
set_option maxHeartbeats 4000000 in
theorem tbX4_readBoard_J104 (d n : Nat) (y1 : Int64) (y3 : Int32) (y4 : Int32) (y5 : Int32) (I : Nat → Nat → Int32) (J : Nat → Nat → Int64) (rv sp rr w nw : Nat) (hrr : rr = 3 ∨ rr = 19) (out : Int32 × (Nat → Nat → Int32) × (Nat → Nat → Int64)) (e : fX4_readBoard_J104 n y1 y3 y4 y5 I J rr = some out) : mm_T none (d + 6) 50 (104, [some (.ref 16), some (.long y1), none, some (.int y3), some (.int y4), some (.int y5)], []) (107, I, J, mm_rf rv sp rr w nw) (fun v h => v = some (.int out.1) ∧ h = (107, out.2.1, out.2.2, mm_rf rv sp rr w nw)) := by
  rcases hrr with rfl | rfl
  · unfold fX4_readBoard_J104 at e
    refine mm_T.seg (f' := (107, [some (.ref 16), some (.long y1), none, some (.int y3), some (.int y4), some (.int y5)], [(.int (-1)), (.int y4)])) (h' := (107, I, J, mm_rf rv sp 3 w nw)) 2 rfl ?_
    refine mm_T.br (c := y4 = (-1)) (a := ((116, [some (.ref 16), some (.long y1), none, some (.int y3), some (.int y4), some (.int y5)], []), (107, I, J, mm_rf rv sp 3 w nw))) (b := ((110, [some (.ref 16), some (.long y1), none, some (.int y3), some (.int y4), some (.int y5)], []), (107, I, J, mm_rf rv sp 3 w nw))) rfl (fun h1615 => ?_) (fun h1615 => ?_)
    · rw [if_pos h1615] at e
      refine mm_T.mask [false, false, false, false, false, false] ?_
      exact tbX4_readBoard_J116 d I J rv sp 3 w nw out e
    · rw [if_neg h1615] at e
      refine mm_T.seg (f' := (113, [some (.ref 16), some (.long y1), none, some (.int y3), some (.int y4), some (.int y5)], [(.int (-1)), (.int y5)])) (h' := (107, I, J, mm_rf rv sp 3 w nw)) 2 rfl ?_
      refine mm_T.br (c := y5 = (-1)) (a := ((116, [some (.ref 16), some (.long y1), none, some (.int y3), some (.int y4), some (.int y5)], []), (107, I, J, mm_rf rv sp 3 w nw))) (b := ((118, [some (.ref 16), some (.long y1), none, some (.int y3), some (.int y4), some (.int y5)], []), (107, I, J, mm_rf rv sp 3 w nw))) rfl (fun h1616 => ?_) (fun h1616 => ?_)
      · rw [if_pos h1616] at e
        refine mm_T.mask [false, false, false, false, false, false] ?_
        exact tbX4_readBoard_J116 d I J rv sp 3 w nw out e
      · rw [if_neg h1616] at e
        refine mm_T.seg (f' := (122, [some (.ref 16), some (.long y1), none, some (.int y3), some (.int y4), some (.int y5)], [(.ref 3)])) (h' := (107, I, J, mm_rf rv sp 3 w nw)) 2 rfl ?_
        refine mm_T.seg (f' := (128, [some (.ref 16), some (.long y1), none, some (.int y3), some (.int y4), some (.int y5)], [(.int y5), (.int y4), (.int y3), (.long y1), (.ref 3)])) (h' := (107, I, J, mm_rf rv sp 3 w nw)) 4 rfl ?_
        obtain ⟨o1619, eo1619, e⟩ := mm_bind e
        refine mm_T.call (t := 72) (as := [(.ref 3), (.long y1), (.int y3), (.int y4), (.int y5)]) (f' := (131, [some (.ref 16), some (.long y1), none, some (.int y3), some (.int y4), some (.int y5)], [])) rfl (tX5_addBoard (d + 4) y1 y3 y4 y5 3 I J rv sp 3 w nw (Or.inl rfl) o1619 eo1619) (fun v h hq => ?_)
        obtain ⟨rfl, rfl⟩ := hq
        refine mm_T.seg (f' := (132, [some (.ref 16), some (.long y1), none, some (.int y3), some (.int y4), some (.int y5)], [(.ref 16)])) (h' := (107, o1619.1, o1619.2, mm_rf rv sp 3 w nw)) 1 rfl ?_
        obtain ⟨o1620, eo1620, e⟩ := mm_bind e
        refine mm_T.call (t := 41) (as := [(.ref 16)]) (f' := (135, [some (.ref 16), some (.long y1), none, some (.int y3), some (.int y4), some (.int y5)], [])) rfl (tX4_passEndOfLine (d + 0) n o1619.1 o1619.2 rv sp 3 w nw o1620 eo1620) (fun v h hq => ?_)
        obtain ⟨rfl, rfl⟩ := hq
        by_cases h1621 : o1620.1 = 0 ∨ o1620.1 = 1
        case neg => rw [if_neg h1621] at e; cases e
        rw [if_pos h1621] at e
        cases e
        first | exact mm_T.retZ (v := some (.int o1620.1)) rfl h1621 ⟨rfl, rfl⟩ | exact mm_T.retZ (v := some (.int out)) rfl h1621 ⟨rfl, rfl⟩
  · unfold fX4_readBoard_J104 at e
    refine mm_T.seg (f' := (107, [some (.ref 16), some (.long y1), none, some (.int y3), some (.int y4), some (.int y5)], [(.int (-1)), (.int y4)])) (h' := (107, I, J, mm_rf rv sp 19 w nw)) 2 rfl ?_
    refine mm_T.br (c := y4 = (-1)) (a := ((116, [some (.ref 16), some (.long y1), none, some (.int y3), some (.int y4), some (.int y5)], []), (107, I, J, mm_rf rv sp 19 w nw))) (b := ((110, [some (.ref 16), some (.long y1), none, some (.int y3), some (.int y4), some (.int y5)], []), (107, I, J, mm_rf rv sp 19 w nw))) rfl (fun h1615 => ?_) (fun h1615 => ?_)
    · rw [if_pos h1615] at e
      refine mm_T.mask [false, false, false, false, false, false] ?_
      exact tbX4_readBoard_J116 d I J rv sp 19 w nw out e
    · rw [if_neg h1615] at e
      refine mm_T.seg (f' := (113, [some (.ref 16), some (.long y1), none, some (.int y3), some (.int y4), some (.int y5)], [(.int (-1)), (.int y5)])) (h' := (107, I, J, mm_rf rv sp 19 w nw)) 2 rfl ?_
      refine mm_T.br (c := y5 = (-1)) (a := ((116, [some (.ref 16), some (.long y1), none, some (.int y3), some (.int y4), some (.int y5)], []), (107, I, J, mm_rf rv sp 19 w nw))) (b := ((118, [some (.ref 16), some (.long y1), none, some (.int y3), some (.int y4), some (.int y5)], []), (107, I, J, mm_rf rv sp 19 w nw))) rfl (fun h1616 => ?_) (fun h1616 => ?_)
      · rw [if_pos h1616] at e
        refine mm_T.mask [false, false, false, false, false, false] ?_
        exact tbX4_readBoard_J116 d I J rv sp 19 w nw out e
      · rw [if_neg h1616] at e
        refine mm_T.seg (f' := (122, [some (.ref 16), some (.long y1), none, some (.int y3), some (.int y4), some (.int y5)], [(.ref 19)])) (h' := (107, I, J, mm_rf rv sp 19 w nw)) 2 rfl ?_
        refine mm_T.seg (f' := (128, [some (.ref 16), some (.long y1), none, some (.int y3), some (.int y4), some (.int y5)], [(.int y5), (.int y4), (.int y3), (.long y1), (.ref 19)])) (h' := (107, I, J, mm_rf rv sp 19 w nw)) 4 rfl ?_
        obtain ⟨o1619, eo1619, e⟩ := mm_bind e
        refine mm_T.call (t := 72) (as := [(.ref 19), (.long y1), (.int y3), (.int y4), (.int y5)]) (f' := (131, [some (.ref 16), some (.long y1), none, some (.int y3), some (.int y4), some (.int y5)], [])) rfl (tX5_addBoard (d + 4) y1 y3 y4 y5 19 I J rv sp 19 w nw (Or.inr rfl) o1619 eo1619) (fun v h hq => ?_)
        obtain ⟨rfl, rfl⟩ := hq
        refine mm_T.seg (f' := (132, [some (.ref 16), some (.long y1), none, some (.int y3), some (.int y4), some (.int y5)], [(.ref 16)])) (h' := (107, o1619.1, o1619.2, mm_rf rv sp 19 w nw)) 1 rfl ?_
        obtain ⟨o1620, eo1620, e⟩ := mm_bind e
        refine mm_T.call (t := 41) (as := [(.ref 16)]) (f' := (135, [some (.ref 16), some (.long y1), none, some (.int y3), some (.int y4), some (.int y5)], [])) rfl (tX4_passEndOfLine (d + 0) n o1619.1 o1619.2 rv sp 19 w nw o1620 eo1620) (fun v h hq => ?_)
        obtain ⟨rfl, rfl⟩ := hq
        by_cases h1621 : o1620.1 = 0 ∨ o1620.1 = 1
        case neg => rw [if_neg h1621] at e; cases e
        rw [if_pos h1621] at e
        cases e
        first | exact mm_T.retZ (v := some (.int o1620.1)) rfl h1621 ⟨rfl, rfl⟩ | exact mm_T.retZ (v := some (.int out)) rfl h1621 ⟨rfl, rfl⟩
set_option maxRecDepth 100000 in
set_option maxHeartbeats 4000000 in
theorem tbX4_readBoard_J39 (d n : Nat) (y1 : Int64) (u0 : Int32) (I : Nat → Nat → Int32) (J : Nat → Nat → Int64) (rv sp rr w nw : Nat) (hrr : rr = 3 ∨ rr = 19) (out : Int32 × (Nat → Nat → Int32) × (Nat → Nat → Int64)) (e : fX4_readBoard_J39 n y1 u0 I J rr = some out) : mm_T none (d + 6) 50 (39, [some (.ref 16), some (.long y1), none, none, none, none], [(.int u0)]) (107, I, J, mm_rf rv sp rr w nw) (fun v h => v = some (.int out.1) ∧ h = (107, out.2.1, out.2.2, mm_rf rv sp rr w nw)) := by
  rcases hrr with rfl | rfl
  · unfold fX4_readBoard_J39 at e
    refine mm_T.seg (f' := (42, [some (.ref 16), some (.long y1), none, some (.int u0), none, none], [(.int (-1)), (.int u0)])) (h' := (107, I, J, mm_rf rv sp 3 w nw)) 3 rfl ?_
    refine mm_T.br (c := u0 = (-1)) (a := ((54, [some (.ref 16), some (.long y1), none, some (.int u0), none, none], []), (107, I, J, mm_rf rv sp 3 w nw))) (b := ((45, [some (.ref 16), some (.long y1), none, some (.int u0), none, none], []), (107, I, J, mm_rf rv sp 3 w nw))) rfl (fun h1610 => ?_) (fun h1610 => ?_)
    · rw [if_pos h1610] at e
      refine mm_T.mask [false, false, false, false, false, false] ?_
      exact tbX4_readBoard_J54 d I J rv sp 3 w nw out e
    · rw [if_neg h1610] at e
      refine mm_T.seg (f' := (48, [some (.ref 16), some (.long y1), none, some (.int u0), none, none], [(.int 9), (.ref 16)])) (h' := (107, I, J, mm_rf rv sp 3 w nw)) 2 rfl ?_
      obtain ⟨o1611, eo1611, e⟩ := mm_bind e
      refine mm_T.call (t := 40) (as := [(.ref 16), (.int 9)]) (f' := (51, [some (.ref 16), some (.long y1), none, some (.int u0), none, none], [])) rfl (tX4_passWord (d + 0) n 9 I J rv sp 3 w nw o1611 eo1611) (fun v h hq => ?_)
      obtain ⟨rfl, rfl⟩ := hq
      refine mm_T.br (c := o1611.1 = 0) (a := ((54, [some (.ref 16), some (.long y1), none, some (.int u0), none, none], []), (107, o1611.2.1, o1611.2.2, mm_rf rv sp 3 w nw))) (b := ((56, [some (.ref 16), some (.long y1), none, some (.int u0), none, none], []), (107, o1611.2.1, o1611.2.2, mm_rf rv sp 3 w nw))) rfl (fun h1612 => ?_) (fun h1612 => ?_)
      · rw [if_pos h1612] at e
        refine mm_T.mask [false, false, false, false, false, false] ?_
        exact tbX4_readBoard_J54 d o1611.2.1 o1611.2.2 rv sp 3 w nw out e
      · rw [if_neg h1612] at e
        refine mm_T.seg (f' := (62, [some (.ref 16), some (.long y1), none, some (.int u0), none, none], [(.ref 3), (.int 0), (.ref 16)])) (h' := (107, o1611.2.1, o1611.2.2, mm_rf rv sp 3 w nw)) 4 rfl ?_
        refine mm_T.seg (f' := (67, [some (.ref 16), some (.long y1), none, some (.int u0), none, none], [(.int ((o1611.2.1 3 0) - 1)), (.int 0), (.ref 16)])) (h' := (107, o1611.2.1, o1611.2.2, mm_rf rv sp 3 w nw)) 3 rfl ?_
        obtain ⟨o1613, eo1613, e⟩ := mm_bind e
        refine mm_T.call (t := 43) (as := [(.ref 16), (.int 0), (.int ((o1611.2.1 3 0) - 1))]) (f' := (70, [some (.ref 16), some (.long y1), none, some (.int u0), none, none], [])) rfl (tX4_passNumber (d + 0) n 0 ((o1611.2.1 3 0) - 1) o1611.2.1 o1611.2.2 rv sp 3 w nw o1613 eo1613) (fun v h hq => ?_)
        obtain ⟨rfl, rfl⟩ := hq
        refine mm_T.seg (f' := (79, [some (.ref 16), some (.long y1), none, some (.int u0), some (.int o1613.1), some (.int 20)], [(.int (-1)), (.int o1613.1)])) (h' := (107, o1613.2.1, o1613.2.2, mm_rf rv sp 3 w nw)) 5 rfl ?_
        refine mm_T.br (c := o1613.1 = (-1)) (a := ((104, [some (.ref 16), some (.long y1), none, some (.int u0), some (.int o1613.1), some (.int 20)], []), (107, o1613.2.1, o1613.2.2, mm_rf rv sp 3 w nw))) (b := ((82, [some (.ref 16), some (.long y1), none, some (.int u0), some (.int o1613.1), some (.int 20)], []), (107, o1613.2.1, o1613.2.2, mm_rf rv sp 3 w nw))) rfl (fun h1614 => ?_) (fun h1614 => ?_)
        · rw [if_pos h1614] at e
          refine mm_T.mask [true, true, false, true, true, true] ?_
          exact tbX4_readBoard_J104 d n y1 u0 o1613.1 20 o1613.2.1 o1613.2.2 rv sp 3 w nw (Or.inl rfl) out e
        · rw [if_neg h1614] at e
          refine mm_T.seg (f' := (85, [some (.ref 16), some (.long y1), none, some (.int u0), some (.int o1613.1), some (.int 20)], [(.int 11), (.ref 16)])) (h' := (107, o1613.2.1, o1613.2.2, mm_rf rv sp 3 w nw)) 2 rfl ?_
          obtain ⟨g234, hg234⟩ : ∃ z, fX4_isWord 11 o1613.2.1 = z := ⟨_, rfl⟩
          try rw [hg234] at e
          refine mm_T.call (t := 38) (as := [(.ref 16), (.int 11)]) (f' := (88, [some (.ref 16), some (.long y1), none, some (.int u0), some (.int o1613.1), some (.int 20)], [])) rfl (tX4_isWord (d + 5) 11 o1613.2.1 o1613.2.2 rv sp 3 w nw g234 hg234) (fun v h hq => ?_)
          obtain ⟨rfl, rfl⟩ := hq
          refine mm_T.br (c := g234 = 0) (a := ((104, [some (.ref 16), some (.long y1), none, some (.int u0), some (.int o1613.1), some (.int 20)], []), (107, o1613.2.1, o1613.2.2, mm_rf rv sp 3 w nw))) (b := ((91, [some (.ref 16), some (.long y1), none, some (.int u0), some (.int o1613.1), some (.int 20)], []), (107, o1613.2.1, o1613.2.2, mm_rf rv sp 3 w nw))) rfl (fun h1622 => ?_) (fun h1622 => ?_)
          · rw [if_pos h1622] at e
            refine mm_T.mask [true, true, false, true, true, true] ?_
            exact tbX4_readBoard_J104 d n y1 u0 o1613.1 20 o1613.2.1 o1613.2.2 rv sp 3 w nw (Or.inl rfl) out e
          · rw [if_neg h1622] at e
            refine mm_T.seg (f' := (92, [some (.ref 16), some (.long y1), none, some (.int u0), some (.int o1613.1), some (.int 20)], [(.ref 16)])) (h' := (107, o1613.2.1, o1613.2.2, mm_rf rv sp 3 w nw)) 1 rfl ?_
            obtain ⟨o1623, eo1623, e⟩ := mm_bind e
            refine mm_T.call (t := 34) (as := [(.ref 16)]) (f' := (95, [some (.ref 16), some (.long y1), none, some (.int u0), some (.int o1613.1), some (.int 20)], [])) rfl (tX4_advance (d + 1) n o1613.2.1 o1613.2.2 rv sp 3 w nw o1623 eo1623) (fun v h hq => ?_)
            obtain ⟨rfl, rfl⟩ := hq
            refine mm_T.seg (f' := (99, [some (.ref 16), some (.long y1), none, some (.int u0), some (.int o1613.1), some (.int 20)], [(.int 99), (.int 0), (.ref 16)])) (h' := (107, o1623.1, o1623.2, mm_rf rv sp 3 w nw)) 3 rfl ?_
            obtain ⟨o1624, eo1624, e⟩ := mm_bind e
            refine mm_T.call (t := 43) (as := [(.ref 16), (.int 0), (.int 99)]) (f' := (102, [some (.ref 16), some (.long y1), none, some (.int u0), some (.int o1613.1), some (.int 20)], [])) rfl (tX4_passNumber (d + 0) n 0 99 o1623.1 o1623.2 rv sp 3 w nw o1624 eo1624) (fun v h hq => ?_)
            obtain ⟨rfl, rfl⟩ := hq
            refine mm_T.seg (f' := (104, [some (.ref 16), some (.long y1), none, some (.int u0), some (.int o1613.1), some (.int o1624.1)], [])) (h' := (107, o1624.2.1, o1624.2.2, mm_rf rv sp 3 w nw)) 1 rfl ?_
            refine mm_T.mask [true, true, false, true, true, true] ?_
            exact tbX4_readBoard_J104 d n y1 u0 o1613.1 o1624.1 o1624.2.1 o1624.2.2 rv sp 3 w nw (Or.inl rfl) out e
  · unfold fX4_readBoard_J39 at e
    refine mm_T.seg (f' := (42, [some (.ref 16), some (.long y1), none, some (.int u0), none, none], [(.int (-1)), (.int u0)])) (h' := (107, I, J, mm_rf rv sp 19 w nw)) 3 rfl ?_
    refine mm_T.br (c := u0 = (-1)) (a := ((54, [some (.ref 16), some (.long y1), none, some (.int u0), none, none], []), (107, I, J, mm_rf rv sp 19 w nw))) (b := ((45, [some (.ref 16), some (.long y1), none, some (.int u0), none, none], []), (107, I, J, mm_rf rv sp 19 w nw))) rfl (fun h1610 => ?_) (fun h1610 => ?_)
    · rw [if_pos h1610] at e
      refine mm_T.mask [false, false, false, false, false, false] ?_
      exact tbX4_readBoard_J54 d I J rv sp 19 w nw out e
    · rw [if_neg h1610] at e
      refine mm_T.seg (f' := (48, [some (.ref 16), some (.long y1), none, some (.int u0), none, none], [(.int 9), (.ref 16)])) (h' := (107, I, J, mm_rf rv sp 19 w nw)) 2 rfl ?_
      obtain ⟨o1611, eo1611, e⟩ := mm_bind e
      refine mm_T.call (t := 40) (as := [(.ref 16), (.int 9)]) (f' := (51, [some (.ref 16), some (.long y1), none, some (.int u0), none, none], [])) rfl (tX4_passWord (d + 0) n 9 I J rv sp 19 w nw o1611 eo1611) (fun v h hq => ?_)
      obtain ⟨rfl, rfl⟩ := hq
      refine mm_T.br (c := o1611.1 = 0) (a := ((54, [some (.ref 16), some (.long y1), none, some (.int u0), none, none], []), (107, o1611.2.1, o1611.2.2, mm_rf rv sp 19 w nw))) (b := ((56, [some (.ref 16), some (.long y1), none, some (.int u0), none, none], []), (107, o1611.2.1, o1611.2.2, mm_rf rv sp 19 w nw))) rfl (fun h1612 => ?_) (fun h1612 => ?_)
      · rw [if_pos h1612] at e
        refine mm_T.mask [false, false, false, false, false, false] ?_
        exact tbX4_readBoard_J54 d o1611.2.1 o1611.2.2 rv sp 19 w nw out e
      · rw [if_neg h1612] at e
        refine mm_T.seg (f' := (62, [some (.ref 16), some (.long y1), none, some (.int u0), none, none], [(.ref 19), (.int 0), (.ref 16)])) (h' := (107, o1611.2.1, o1611.2.2, mm_rf rv sp 19 w nw)) 4 rfl ?_
        refine mm_T.seg (f' := (67, [some (.ref 16), some (.long y1), none, some (.int u0), none, none], [(.int ((o1611.2.1 19 0) - 1)), (.int 0), (.ref 16)])) (h' := (107, o1611.2.1, o1611.2.2, mm_rf rv sp 19 w nw)) 3 rfl ?_
        obtain ⟨o1613, eo1613, e⟩ := mm_bind e
        refine mm_T.call (t := 43) (as := [(.ref 16), (.int 0), (.int ((o1611.2.1 19 0) - 1))]) (f' := (70, [some (.ref 16), some (.long y1), none, some (.int u0), none, none], [])) rfl (tX4_passNumber (d + 0) n 0 ((o1611.2.1 19 0) - 1) o1611.2.1 o1611.2.2 rv sp 19 w nw o1613 eo1613) (fun v h hq => ?_)
        obtain ⟨rfl, rfl⟩ := hq
        refine mm_T.seg (f' := (79, [some (.ref 16), some (.long y1), none, some (.int u0), some (.int o1613.1), some (.int 20)], [(.int (-1)), (.int o1613.1)])) (h' := (107, o1613.2.1, o1613.2.2, mm_rf rv sp 19 w nw)) 5 rfl ?_
        refine mm_T.br (c := o1613.1 = (-1)) (a := ((104, [some (.ref 16), some (.long y1), none, some (.int u0), some (.int o1613.1), some (.int 20)], []), (107, o1613.2.1, o1613.2.2, mm_rf rv sp 19 w nw))) (b := ((82, [some (.ref 16), some (.long y1), none, some (.int u0), some (.int o1613.1), some (.int 20)], []), (107, o1613.2.1, o1613.2.2, mm_rf rv sp 19 w nw))) rfl (fun h1614 => ?_) (fun h1614 => ?_)
        · rw [if_pos h1614] at e
          refine mm_T.mask [true, true, false, true, true, true] ?_
          exact tbX4_readBoard_J104 d n y1 u0 o1613.1 20 o1613.2.1 o1613.2.2 rv sp 19 w nw (Or.inr rfl) out e
        · rw [if_neg h1614] at e
          refine mm_T.seg (f' := (85, [some (.ref 16), some (.long y1), none, some (.int u0), some (.int o1613.1), some (.int 20)], [(.int 11), (.ref 16)])) (h' := (107, o1613.2.1, o1613.2.2, mm_rf rv sp 19 w nw)) 2 rfl ?_
          obtain ⟨g234, hg234⟩ : ∃ z, fX4_isWord 11 o1613.2.1 = z := ⟨_, rfl⟩
          try rw [hg234] at e
          refine mm_T.call (t := 38) (as := [(.ref 16), (.int 11)]) (f' := (88, [some (.ref 16), some (.long y1), none, some (.int u0), some (.int o1613.1), some (.int 20)], [])) rfl (tX4_isWord (d + 5) 11 o1613.2.1 o1613.2.2 rv sp 19 w nw g234 hg234) (fun v h hq => ?_)
          obtain ⟨rfl, rfl⟩ := hq
          refine mm_T.br (c := g234 = 0) (a := ((104, [some (.ref 16), some (.long y1), none, some (.int u0), some (.int o1613.1), some (.int 20)], []), (107, o1613.2.1, o1613.2.2, mm_rf rv sp 19 w nw))) (b := ((91, [some (.ref 16), some (.long y1), none, some (.int u0), some (.int o1613.1), some (.int 20)], []), (107, o1613.2.1, o1613.2.2, mm_rf rv sp 19 w nw))) rfl (fun h1622 => ?_) (fun h1622 => ?_)
          · rw [if_pos h1622] at e
            refine mm_T.mask [true, true, false, true, true, true] ?_
            exact tbX4_readBoard_J104 d n y1 u0 o1613.1 20 o1613.2.1 o1613.2.2 rv sp 19 w nw (Or.inr rfl) out e
          · rw [if_neg h1622] at e
            refine mm_T.seg (f' := (92, [some (.ref 16), some (.long y1), none, some (.int u0), some (.int o1613.1), some (.int 20)], [(.ref 16)])) (h' := (107, o1613.2.1, o1613.2.2, mm_rf rv sp 19 w nw)) 1 rfl ?_
            obtain ⟨o1623, eo1623, e⟩ := mm_bind e
            refine mm_T.call (t := 34) (as := [(.ref 16)]) (f' := (95, [some (.ref 16), some (.long y1), none, some (.int u0), some (.int o1613.1), some (.int 20)], [])) rfl (tX4_advance (d + 1) n o1613.2.1 o1613.2.2 rv sp 19 w nw o1623 eo1623) (fun v h hq => ?_)
            obtain ⟨rfl, rfl⟩ := hq
            refine mm_T.seg (f' := (99, [some (.ref 16), some (.long y1), none, some (.int u0), some (.int o1613.1), some (.int 20)], [(.int 99), (.int 0), (.ref 16)])) (h' := (107, o1623.1, o1623.2, mm_rf rv sp 19 w nw)) 3 rfl ?_
            obtain ⟨o1624, eo1624, e⟩ := mm_bind e
            refine mm_T.call (t := 43) (as := [(.ref 16), (.int 0), (.int 99)]) (f' := (102, [some (.ref 16), some (.long y1), none, some (.int u0), some (.int o1613.1), some (.int 20)], [])) rfl (tX4_passNumber (d + 0) n 0 99 o1623.1 o1623.2 rv sp 19 w nw o1624 eo1624) (fun v h hq => ?_)
            obtain ⟨rfl, rfl⟩ := hq
            refine mm_T.seg (f' := (104, [some (.ref 16), some (.long y1), none, some (.int u0), some (.int o1613.1), some (.int o1624.1)], [])) (h' := (107, o1624.2.1, o1624.2.2, mm_rf rv sp 19 w nw)) 1 rfl ?_
            refine mm_T.mask [true, true, false, true, true, true] ?_
            exact tbX4_readBoard_J104 d n y1 u0 o1613.1 o1624.1 o1624.2.1 o1624.2.2 rv sp 19 w nw (Or.inr rfl) out e
set_option maxRecDepth 100000 in
set_option maxHeartbeats 4000000 in
theorem tX4_readBoard (d n : Nat) (I : Nat → Nat → Int32) (J : Nat → Nat → Int64) (rv sp rr w nw : Nat) (hrr : rr = 3 ∨ rr = 19) (out : Int32 × (Nat → Nat → Int32) × (Nat → Nat → Int64)) (e : fX4_readBoard n I J rr = some out) : mm_T none (d + 6) 50 (mm_ent 50 [(.ref 16)]) (107, I, J, mm_rf rv sp rr w nw) (fun v h => v = some (.int out.1) ∧ h = (107, out.2.1, out.2.2, mm_rf rv sp rr w nw)) := by
  rcases hrr with rfl | rfl
  · unfold fX4_readBoard at e
    refine mm_T.seg (f' := (2, [some (.ref 16), none, none, none, none, none], [(.int 1), (.ref 16)])) (h' := (107, I, J, mm_rf rv sp 3 w nw)) 2 rfl ?_
    obtain ⟨o1605, eo1605, e⟩ := mm_bind e
    refine mm_T.call (t := 49) (as := [(.ref 16), (.int 1)]) (f' := (5, [some (.ref 16), none, none, none, none, none], [])) rfl (tX4_isNewName (d + 3) n 1 I J rv sp 3 w nw (Or.inl rfl) o1605 eo1605) (fun v h hq => ?_)
    obtain ⟨rfl, rfl⟩ := hq
    refine mm_T.br (c := o1605.1 = 0) (a := ((8, [some (.ref 16), none, none, none, none, none], []), (107, o1605.2, J, mm_rf rv sp 3 w nw))) (b := ((10, [some (.ref 16), none, none, none, none, none], []), (107, o1605.2, J, mm_rf rv sp 3 w nw))) rfl (fun h1606 => ?_) (fun h1606 => ?_)
    · rw [if_pos h1606] at e
      refine mm_T.seg (f' := (9, [some (.ref 16), none, none, none, none, none], [(.int 0)])) (h' := (107, o1605.2, J, mm_rf rv sp 3 w nw)) 1 rfl ?_
      cases e
      exact mm_T.ret rfl ⟨rfl, rfl⟩
    · rw [if_neg h1606] at e
      refine mm_T.seg (f' := (16, [some (.ref 16), some (.long (J 16 8)), none, none, none, none], [(.ref 16)])) (h' := (107, o1605.2, J, mm_rf rv sp 3 w nw)) 4 rfl ?_
      obtain ⟨o1607, eo1607, e⟩ := mm_bind e
      refine mm_T.call (t := 34) (as := [(.ref 16)]) (f' := (19, [some (.ref 16), some (.long (J 16 8)), none, none, none, none], [])) rfl (tX4_advance (d + 1) n o1605.2 J rv sp 3 w nw o1607 eo1607) (fun v h hq => ?_)
      obtain ⟨rfl, rfl⟩ := hq
      refine mm_T.seg (f' := (22, [some (.ref 16), some (.long (J 16 8)), none, none, none, none], [(.int 10), (.ref 16)])) (h' := (107, o1607.1, o1607.2, mm_rf rv sp 3 w nw)) 2 rfl ?_
      obtain ⟨o1608, eo1608, e⟩ := mm_bind e
      refine mm_T.call (t := 40) (as := [(.ref 16), (.int 10)]) (f' := (25, [some (.ref 16), some (.long (J 16 8)), none, none, none, none], [])) rfl (tX4_passWord (d + 0) n 10 o1607.1 o1607.2 rv sp 3 w nw o1608 eo1608) (fun v h hq => ?_)
      obtain ⟨rfl, rfl⟩ := hq
      refine mm_T.br (c := o1608.1 = 0) (a := ((38, [some (.ref 16), some (.long (J 16 8)), none, none, none, none], []), (107, o1608.2.1, o1608.2.2, mm_rf rv sp 3 w nw))) (b := ((28, [some (.ref 16), some (.long (J 16 8)), none, none, none, none], []), (107, o1608.2.1, o1608.2.2, mm_rf rv sp 3 w nw))) rfl (fun h1609 => ?_) (fun h1609 => ?_)
      · rw [if_pos h1609] at e
        refine mm_T.seg (f' := (39, [some (.ref 16), some (.long (J 16 8)), none, none, none, none], [(.int (-1))])) (h' := (107, o1608.2.1, o1608.2.2, mm_rf rv sp 3 w nw)) 1 rfl ?_
        refine mm_T.mask [true, true, false, false, false, false] ?_
        exact tbX4_readBoard_J39 d n (J 16 8) (-1) o1608.2.1 o1608.2.2 rv sp 3 w nw (Or.inl rfl) out e
      · rw [if_neg h1609] at e
        refine mm_T.seg (f' := (32, [some (.ref 16), some (.long (J 16 8)), none, none, none, none], [(.int 99), (.int 0), (.ref 16)])) (h' := (107, o1608.2.1, o1608.2.2, mm_rf rv sp 3 w nw)) 3 rfl ?_
        obtain ⟨o1625, eo1625, e⟩ := mm_bind e
        refine mm_T.call (t := 43) (as := [(.ref 16), (.int 0), (.int 99)]) (f' := (35, [some (.ref 16), some (.long (J 16 8)), none, none, none, none], [])) rfl (tX4_passNumber (d + 0) n 0 99 o1608.2.1 o1608.2.2 rv sp 3 w nw o1625 eo1625) (fun v h hq => ?_)
        obtain ⟨rfl, rfl⟩ := hq
        refine mm_T.seg (f' := (39, [some (.ref 16), some (.long (J 16 8)), none, none, none, none], [(.int o1625.1)])) (h' := (107, o1625.2.1, o1625.2.2, mm_rf rv sp 3 w nw)) 1 rfl ?_
        refine mm_T.mask [true, true, false, false, false, false] ?_
        exact tbX4_readBoard_J39 d n (J 16 8) o1625.1 o1625.2.1 o1625.2.2 rv sp 3 w nw (Or.inl rfl) out e
  · unfold fX4_readBoard at e
    refine mm_T.seg (f' := (2, [some (.ref 16), none, none, none, none, none], [(.int 1), (.ref 16)])) (h' := (107, I, J, mm_rf rv sp 19 w nw)) 2 rfl ?_
    obtain ⟨o1605, eo1605, e⟩ := mm_bind e
    refine mm_T.call (t := 49) (as := [(.ref 16), (.int 1)]) (f' := (5, [some (.ref 16), none, none, none, none, none], [])) rfl (tX4_isNewName (d + 3) n 1 I J rv sp 19 w nw (Or.inr rfl) o1605 eo1605) (fun v h hq => ?_)
    obtain ⟨rfl, rfl⟩ := hq
    refine mm_T.br (c := o1605.1 = 0) (a := ((8, [some (.ref 16), none, none, none, none, none], []), (107, o1605.2, J, mm_rf rv sp 19 w nw))) (b := ((10, [some (.ref 16), none, none, none, none, none], []), (107, o1605.2, J, mm_rf rv sp 19 w nw))) rfl (fun h1606 => ?_) (fun h1606 => ?_)
    · rw [if_pos h1606] at e
      refine mm_T.seg (f' := (9, [some (.ref 16), none, none, none, none, none], [(.int 0)])) (h' := (107, o1605.2, J, mm_rf rv sp 19 w nw)) 1 rfl ?_
      cases e
      exact mm_T.ret rfl ⟨rfl, rfl⟩
    · rw [if_neg h1606] at e
      refine mm_T.seg (f' := (16, [some (.ref 16), some (.long (J 16 8)), none, none, none, none], [(.ref 16)])) (h' := (107, o1605.2, J, mm_rf rv sp 19 w nw)) 4 rfl ?_
      obtain ⟨o1607, eo1607, e⟩ := mm_bind e
      refine mm_T.call (t := 34) (as := [(.ref 16)]) (f' := (19, [some (.ref 16), some (.long (J 16 8)), none, none, none, none], [])) rfl (tX4_advance (d + 1) n o1605.2 J rv sp 19 w nw o1607 eo1607) (fun v h hq => ?_)
      obtain ⟨rfl, rfl⟩ := hq
      refine mm_T.seg (f' := (22, [some (.ref 16), some (.long (J 16 8)), none, none, none, none], [(.int 10), (.ref 16)])) (h' := (107, o1607.1, o1607.2, mm_rf rv sp 19 w nw)) 2 rfl ?_
      obtain ⟨o1608, eo1608, e⟩ := mm_bind e
      refine mm_T.call (t := 40) (as := [(.ref 16), (.int 10)]) (f' := (25, [some (.ref 16), some (.long (J 16 8)), none, none, none, none], [])) rfl (tX4_passWord (d + 0) n 10 o1607.1 o1607.2 rv sp 19 w nw o1608 eo1608) (fun v h hq => ?_)
      obtain ⟨rfl, rfl⟩ := hq
      refine mm_T.br (c := o1608.1 = 0) (a := ((38, [some (.ref 16), some (.long (J 16 8)), none, none, none, none], []), (107, o1608.2.1, o1608.2.2, mm_rf rv sp 19 w nw))) (b := ((28, [some (.ref 16), some (.long (J 16 8)), none, none, none, none], []), (107, o1608.2.1, o1608.2.2, mm_rf rv sp 19 w nw))) rfl (fun h1609 => ?_) (fun h1609 => ?_)
      · rw [if_pos h1609] at e
        refine mm_T.seg (f' := (39, [some (.ref 16), some (.long (J 16 8)), none, none, none, none], [(.int (-1))])) (h' := (107, o1608.2.1, o1608.2.2, mm_rf rv sp 19 w nw)) 1 rfl ?_
        refine mm_T.mask [true, true, false, false, false, false] ?_
        exact tbX4_readBoard_J39 d n (J 16 8) (-1) o1608.2.1 o1608.2.2 rv sp 19 w nw (Or.inr rfl) out e
      · rw [if_neg h1609] at e
        refine mm_T.seg (f' := (32, [some (.ref 16), some (.long (J 16 8)), none, none, none, none], [(.int 99), (.int 0), (.ref 16)])) (h' := (107, o1608.2.1, o1608.2.2, mm_rf rv sp 19 w nw)) 3 rfl ?_
        obtain ⟨o1625, eo1625, e⟩ := mm_bind e
        refine mm_T.call (t := 43) (as := [(.ref 16), (.int 0), (.int 99)]) (f' := (35, [some (.ref 16), some (.long (J 16 8)), none, none, none, none], [])) rfl (tX4_passNumber (d + 0) n 0 99 o1608.2.1 o1608.2.2 rv sp 19 w nw o1625 eo1625) (fun v h hq => ?_)
        obtain ⟨rfl, rfl⟩ := hq
        refine mm_T.seg (f' := (39, [some (.ref 16), some (.long (J 16 8)), none, none, none, none], [(.int o1625.1)])) (h' := (107, o1625.2.1, o1625.2.2, mm_rf rv sp 19 w nw)) 1 rfl ?_
        refine mm_T.mask [true, true, false, false, false, false] ?_
        exact tbX4_readBoard_J39 d n (J 16 8) o1625.1 o1625.2.1 o1625.2.2 rv sp 19 w nw (Or.inr rfl) out e
