set_option maxRecDepth 100000 in
set_option maxHeartbeats 4000000 in
theorem tlX4_advance_L5 (d : Nat) (Q : Option Value → mm_H → Prop) : ∀ (n : Nat) (y1 : Int32) (I : Nat → Nat → Int32) (J : Nat → Nat → Int64) (rv sp rr w nw : Nat), ∀ (out : Int32), fX4_advance_L5 n y1 I = some out → mm_T none (d + 4) 34 (39, [some (.ref 16), some (.int out)], []) (107, I, J, mm_rf rv sp rr w nw) Q → mm_T none (d + 4) 34 (5, [some (.ref 16), some (.int y1)], []) (107, I, J, mm_rf rv sp rr w nw) Q := by
  intro n
  induction n with
  | zero =>
    intro y1 I J rv sp rr w nw out e k
    rw [fX4_advance_L5] at e; cases e
  | succ n ih =>
    intro y1 I J rv sp rr w nw out e k
    rw [fX4_advance_L5] at e
    refine mm_T.seg (f' := (10, [some (.ref 16), some (.int y1)], [(.int (I 16 2)), (.int y1)])) (h' := (107, I, J, mm_rf rv sp rr w nw)) 3 rfl ?_
    refine mm_T.br (c := y1 < (I 16 2)) (a := ((13, [some (.ref 16), some (.int y1)], []), (107, I, J, mm_rf rv sp rr w nw))) (b := ((39, [some (.ref 16), some (.int y1)], []), (107, I, J, mm_rf rv sp rr w nw))) rfl (fun h1433 => ?_) (fun h1433 => ?_)
    · rw [if_pos h1433] at e
      refine mm_T.seg (f' := (15, [some (.ref 16), some (.int y1)], [(.int y1), (.ref 16)])) (h' := (107, I, J, mm_rf rv sp rr w nw)) 2 rfl ?_
      obtain ⟨o1434, eo1434, e⟩ := mm_bind e
      refine mm_T.call (t := 31) (as := [(.ref 16), (.int y1)]) (f' := (18, [some (.ref 16), some (.int y1)], [])) rfl (tX4_byteAt (d + 3) y1 I J rv sp rr w nw o1434 eo1434) (fun v h hq => ?_)
      obtain ⟨rfl, rfl⟩ := hq
      refine mm_T.seg (f' := (20, [some (.ref 16), some (.int y1)], [(.int 32), (.int o1434)])) (h' := (107, I, J, mm_rf rv sp rr w nw)) 1 rfl ?_
      refine mm_T.br (c := o1434 = 32) (a := ((33, [some (.ref 16), some (.int y1)], []), (107, I, J, mm_rf rv sp rr w nw))) (b := ((23, [some (.ref 16), some (.int y1)], []), (107, I, J, mm_rf rv sp rr w nw))) rfl (fun h1435 => ?_) (fun h1435 => ?_)
      · rw [if_pos h1435] at e
        refine mm_T.seg (f' := (5, [some (.ref 16), some (.int (y1 + 1))], [])) (h' := (107, I, J, mm_rf rv sp rr w nw)) 2 rfl ?_
        refine mm_T.mask [true, true] ?_
        exact ih (y1 + 1) I J rv sp rr w nw out e k
      · rw [if_neg h1435] at e
        refine mm_T.seg (f' := (25, [some (.ref 16), some (.int y1)], [(.int y1), (.ref 16)])) (h' := (107, I, J, mm_rf rv sp rr w nw)) 2 rfl ?_
        obtain ⟨o1436, eo1436, e⟩ := mm_bind e
        refine mm_T.call (t := 31) (as := [(.ref 16), (.int y1)]) (f' := (28, [some (.ref 16), some (.int y1)], [])) rfl (tX4_byteAt (d + 3) y1 I J rv sp rr w nw o1436 eo1436) (fun v h hq => ?_)
        obtain ⟨rfl, rfl⟩ := hq
        refine mm_T.seg (f' := (30, [some (.ref 16), some (.int y1)], [(.int 10), (.int o1436)])) (h' := (107, I, J, mm_rf rv sp rr w nw)) 1 rfl ?_
        refine mm_T.br (c := o1436 = 10) (a := ((33, [some (.ref 16), some (.int y1)], []), (107, I, J, mm_rf rv sp rr w nw))) (b := ((39, [some (.ref 16), some (.int y1)], []), (107, I, J, mm_rf rv sp rr w nw))) rfl (fun h1437 => ?_) (fun h1437 => ?_)
        · rw [if_pos h1437] at e
          refine mm_T.seg (f' := (5, [some (.ref 16), some (.int (y1 + 1))], [])) (h' := (107, I, J, mm_rf rv sp rr w nw)) 2 rfl ?_
          refine mm_T.mask [true, true] ?_
          exact ih (y1 + 1) I J rv sp rr w nw out e k
        · rw [if_neg h1437] at e
          cases e
          refine mm_T.mask [true, true] ?_
          exact k
    · rw [if_neg h1433] at e
      cases e
      refine mm_T.mask [true, true] ?_
      exact k
set_option maxRecDepth 100000 in
set_option maxHeartbeats 4000000 in
theorem tbX4_advance_J126 (d : Nat) (y1 : Int32) (u0 : Int32) (I : Nat → Nat → Int32) (J : Nat → Nat → Int64) (rv sp rr w nw : Nat) (out : (Nat → Nat → Int32) × (Nat → Nat → Int64)) (e : fX4_advance_J126 y1 u0 I J = some out) : mm_T none (d + 4) 34 (126, [some (.ref 16), some (.int y1)], [(.int u0), (.ref 16)]) (107, I, J, mm_rf rv sp rr w nw) (fun v h => v = none ∧ h = (107, out.1, out.2, mm_rf rv sp rr w nw)) := by
  unfold fX4_advance_J126 at e
  refine mm_T.seg (f' := (136, [some (.ref 16), some (.int y1)], [])) (h' := (107, (mm_up (mm_up I 16 5 u0) 16 4 (y1 + 1)), J, mm_rf rv sp rr w nw)) 6 rfl ?_
  cases e
  exact mm_T.ret rfl ⟨rfl, rfl⟩
set_option maxRecDepth 100000 in
set_option maxHeartbeats 4000000 in
theorem tbX4_advance_J39 (d n : Nat) (y1 : Int32) (I : Nat → Nat → Int32) (J : Nat → Nat → Int64) (rv sp rr w nw : Nat) (out : (Nat → Nat → Int32) × (Nat → Nat → Int64)) (e : fX4_advance_J39 n y1 I J = some out) : mm_T none (d + 4) 34 (39, [some (.ref 16), some (.int y1)], []) (107, I, J, mm_rf rv sp rr w nw) (fun v h => v = none ∧ h = (107, out.1, out.2, mm_rf rv sp rr w nw)) := by
  unfold fX4_advance_J39 at e
  refine mm_T.seg (f' := (59, [some (.ref 16), some (.int y1)], [(.int (I 16 2)), (.int y1)])) (h' := (107, (mm_up (mm_up (mm_up I 16 3 y1) 16 4 y1) 16 7 (-1)), J, mm_rf rv sp rr w nw)) 12 rfl ?_
  refine mm_T.br (c := y1 < (I 16 2)) (a := ((70, [some (.ref 16), some (.int y1)], []), (107, (mm_up (mm_up (mm_up I 16 3 y1) 16 4 y1) 16 7 (-1)), J, mm_rf rv sp rr w nw))) (b := ((62, [some (.ref 16), some (.int y1)], []), (107, (mm_up (mm_up (mm_up I 16 3 y1) 16 4 y1) 16 7 (-1)), J, mm_rf rv sp rr w nw))) rfl (fun h1439 => ?_) (fun h1439 => ?_)
  · rw [if_pos h1439] at e
    refine mm_T.seg (f' := (72, [some (.ref 16), some (.int y1)], [(.int y1), (.ref 16)])) (h' := (107, (mm_up (mm_up (mm_up I 16 3 y1) 16 4 y1) 16 7 (-1)), J, mm_rf rv sp rr w nw)) 2 rfl ?_
    obtain ⟨o1440, eo1440, e⟩ := mm_bind e
    refine mm_T.call (t := 31) (as := [(.ref 16), (.int y1)]) (f' := (75, [some (.ref 16), some (.int y1)], [])) rfl (tX4_byteAt (d + 3) y1 (mm_up (mm_up (mm_up I 16 3 y1) 16 4 y1) 16 7 (-1)) J rv sp rr w nw o1440 eo1440) (fun v h hq => ?_)
    obtain ⟨rfl, rfl⟩ := hq
    refine mm_T.call (t := 32) (as := [(.int o1440)]) (f' := (78, [some (.ref 16), some (.int y1)], [])) rfl (tX4_isLetter (d + 3) o1440 (mm_up (mm_up (mm_up I 16 3 y1) 16 4 y1) 16 7 (-1)) J rv sp rr w nw _ rfl) (fun v h hq => ?_)
    obtain ⟨rfl, rfl⟩ := hq
    refine mm_T.br (c := (fX4_isLetter o1440) = 0) (a := ((88, [some (.ref 16), some (.int y1)], []), (107, (mm_up (mm_up (mm_up I 16 3 y1) 16 4 y1) 16 7 (-1)), J, mm_rf rv sp rr w nw))) (b := ((81, [some (.ref 16), some (.int y1)], []), (107, (mm_up (mm_up (mm_up I 16 3 y1) 16 4 y1) 16 7 (-1)), J, mm_rf rv sp rr w nw))) rfl (fun h1441 => ?_) (fun h1441 => ?_)
    · rw [if_pos h1441] at e
      refine mm_T.seg (f' := (90, [some (.ref 16), some (.int y1)], [(.int y1), (.ref 16)])) (h' := (107, (mm_up (mm_up (mm_up I 16 3 y1) 16 4 y1) 16 7 (-1)), J, mm_rf rv sp rr w nw)) 2 rfl ?_
      obtain ⟨o1442, eo1442, e⟩ := mm_bind e
      refine mm_T.call (t := 31) (as := [(.ref 16), (.int y1)]) (f' := (93, [some (.ref 16), some (.int y1)], [])) rfl (tX4_byteAt (d + 3) y1 (mm_up (mm_up (mm_up I 16 3 y1) 16 4 y1) 16 7 (-1)) J rv sp rr w nw o1442 eo1442) (fun v h hq => ?_)
      obtain ⟨rfl, rfl⟩ := hq
      refine mm_T.call (t := 33) (as := [(.int o1442)]) (f' := (96, [some (.ref 16), some (.int y1)], [])) rfl (tX4_isDigit (d + 3) o1442 (mm_up (mm_up (mm_up I 16 3 y1) 16 4 y1) 16 7 (-1)) J rv sp rr w nw _ rfl) (fun v h hq => ?_)
      obtain ⟨rfl, rfl⟩ := hq
      refine mm_T.br (c := (fX4_isDigit o1442) = 0) (a := ((106, [some (.ref 16), some (.int y1)], []), (107, (mm_up (mm_up (mm_up I 16 3 y1) 16 4 y1) 16 7 (-1)), J, mm_rf rv sp rr w nw))) (b := ((99, [some (.ref 16), some (.int y1)], []), (107, (mm_up (mm_up (mm_up I 16 3 y1) 16 4 y1) 16 7 (-1)), J, mm_rf rv sp rr w nw))) rfl (fun h1443 => ?_) (fun h1443 => ?_)
      · rw [if_pos h1443] at e
        refine mm_T.seg (f' := (111, [some (.ref 16), some (.int y1)], [(.int y1), (.ref 16), (.retAddr 2), (.ref 16)])) (h' := (107, (mm_up (mm_up (mm_up I 16 3 y1) 16 4 y1) 16 7 (-1)), J, mm_rf rv sp rr w nw)) 4 rfl ?_
        obtain ⟨o1444, eo1444, e⟩ := mm_bind e
        refine mm_T.call (t := 31) (as := [(.ref 16), (.int y1)]) (f' := (114, [some (.ref 16), some (.int y1)], [(.retAddr 2), (.ref 16)])) rfl (tX4_byteAt (d + 3) y1 (mm_up (mm_up (mm_up I 16 3 y1) 16 4 y1) 16 7 (-1)) J rv sp rr w nw o1444 eo1444) (fun v h hq => ?_)
        obtain ⟨rfl, rfl⟩ := hq
        refine mm_T.seg (f' := (115, [some (.ref 16), some (.int y1)], [(.int (o1444.toUInt32 % 65536).toInt32), (.retAddr 2), (.ref 16)])) (h' := (107, (mm_up (mm_up (mm_up I 16 3 y1) 16 4 y1) 16 7 (-1)), J, mm_rf rv sp rr w nw)) 1 rfl ?_
        obtain ⟨o1457, eo1457, e⟩ := mm_bind e
        refine mm_T.call (t := 334) (as := [(.retAddr 2), (.int (o1444.toUInt32 % 65536).toInt32)]) (f' := (118, [some (.ref 16), some (.int y1)], [(.ref 16)])) rfl (tJ0_indexOf_x2 (d + 0) n (o1444.toUInt32 % 65536).toInt32 (mm_up (mm_up (mm_up I 16 3 y1) 16 4 y1) 16 7 (-1)) J rv sp rr w nw o1457 eo1457) (fun v h hq => ?_)
        obtain ⟨rfl, rfl⟩ := hq
        refine mm_T.br (c := o1457 < 0) (a := ((125, [some (.ref 16), some (.int y1)], [(.ref 16)]), (107, (mm_up (mm_up (mm_up I 16 3 y1) 16 4 y1) 16 7 (-1)), J, mm_rf rv sp rr w nw))) (b := ((121, [some (.ref 16), some (.int y1)], [(.ref 16)]), (107, (mm_up (mm_up (mm_up I 16 3 y1) 16 4 y1) 16 7 (-1)), J, mm_rf rv sp rr w nw))) rfl (fun h1458 => ?_) (fun h1458 => ?_)
        · rw [if_pos h1458] at e
          refine mm_T.seg (f' := (126, [some (.ref 16), some (.int y1)], [(.int 4), (.ref 16)])) (h' := (107, (mm_up (mm_up (mm_up I 16 3 y1) 16 4 y1) 16 7 (-1)), J, mm_rf rv sp rr w nw)) 1 rfl ?_
          refine mm_T.mask [true, true] ?_
          exact tbX4_advance_J126 d y1 4 (mm_up (mm_up (mm_up I 16 3 y1) 16 4 y1) 16 7 (-1)) J rv sp rr w nw out e
        · rw [if_neg h1458] at e
          refine mm_T.seg (f' := (126, [some (.ref 16), some (.int y1)], [(.int 3), (.ref 16)])) (h' := (107, (mm_up (mm_up (mm_up I 16 3 y1) 16 4 y1) 16 7 (-1)), J, mm_rf rv sp rr w nw)) 2 rfl ?_
          refine mm_T.mask [true, true] ?_
          exact tbX4_advance_J126 d y1 3 (mm_up (mm_up (mm_up I 16 3 y1) 16 4 y1) 16 7 (-1)) J rv sp rr w nw out e
      · rw [if_neg h1443] at e
        refine mm_T.seg (f' := (100, [some (.ref 16), some (.int y1)], [(.ref 16)])) (h' := (107, (mm_up (mm_up (mm_up I 16 3 y1) 16 4 y1) 16 7 (-1)), J, mm_rf rv sp rr w nw)) 1 rfl ?_
        obtain ⟨o1469, eo1469, e⟩ := mm_bind e
        refine mm_T.call (t := 36) (as := [(.ref 16)]) (f' := (103, [some (.ref 16), some (.int y1)], [])) rfl (tX4_takeNumber (d + 2) n (mm_up (mm_up (mm_up I 16 3 y1) 16 4 y1) 16 7 (-1)) J rv sp rr w nw o1469 eo1469) (fun v h hq => ?_)
        obtain ⟨rfl, rfl⟩ := hq
        refine mm_T.seg (f' := (136, [some (.ref 16), some (.int y1)], [])) (h' := (107, o1469, J, mm_rf rv sp rr w nw)) 1 rfl ?_
        cases e
        exact mm_T.ret rfl ⟨rfl, rfl⟩
    · rw [if_neg h1441] at e
      refine mm_T.seg (f' := (82, [some (.ref 16), some (.int y1)], [(.ref 16)])) (h' := (107, (mm_up (mm_up (mm_up I 16 3 y1) 16 4 y1) 16 7 (-1)), J, mm_rf rv sp rr w nw)) 1 rfl ?_
      obtain ⟨o1486, eo1486, e⟩ := mm_bind e
      refine mm_T.call (t := 35) (as := [(.ref 16)]) (f' := (85, [some (.ref 16), some (.int y1)], [])) rfl (tX4_takeWord (d + 2) n (mm_up (mm_up (mm_up I 16 3 y1) 16 4 y1) 16 7 (-1)) J rv sp rr w nw o1486 eo1486) (fun v h hq => ?_)
      obtain ⟨rfl, rfl⟩ := hq
      refine mm_T.seg (f' := (136, [some (.ref 16), some (.int y1)], [])) (h' := (107, o1486.1, o1486.2, mm_rf rv sp rr w nw)) 1 rfl ?_
      cases e
      exact mm_T.ret rfl ⟨rfl, rfl⟩
  · rw [if_neg h1439] at e
    refine mm_T.seg (f' := (136, [some (.ref 16), some (.int y1)], [])) (h' := (107, (mm_up (mm_up (mm_up (mm_up I 16 3 y1) 16 4 y1) 16 7 (-1)) 16 5 0), J, mm_rf rv sp rr w nw)) 4 rfl ?_
    cases e
    exact mm_T.ret rfl ⟨rfl, rfl⟩
set_option maxRecDepth 100000 in
set_option maxHeartbeats 4000000 in
theorem tX4_advance (d n : Nat) (I : Nat → Nat → Int32) (J : Nat → Nat → Int64) (rv sp rr w nw : Nat) (out : (Nat → Nat → Int32) × (Nat → Nat → Int64)) (e : fX4_advance n I J = some out) : mm_T none (d + 4) 34 (mm_ent 34 [(.ref 16)]) (107, I, J, mm_rf rv sp rr w nw) (fun v h => v = none ∧ h = (107, out.1, out.2, mm_rf rv sp rr w nw)) := by
  unfold fX4_advance at e
  refine mm_T.seg (f' := (5, [some (.ref 16), some (.int (I 16 4))], [])) (h' := (107, I, J, mm_rf rv sp rr w nw)) 3 rfl ?_
  refine mm_T.mask [true, true] ?_
  obtain ⟨o1438, eo1438, e⟩ := mm_bind e
  refine tlX4_advance_L5 d _ n (I 16 4) I J rv sp rr w nw o1438 eo1438 ?_
  refine mm_T.mask [true, true] ?_
  exact tbX4_advance_J39 d n o1438 I J rv sp rr w nw out e
set_option maxRecDepth 100000 in
set_option maxHeartbeats 4000000 in
theorem tX4_isWord (d : Nat) (x1 : Int32) (I : Nat → Nat → Int32) (J : Nat → Nat → Int64) (rv sp rr w nw : Nat) (out : Int32) (e : fX4_isWord x1 I = out) : mm_T none (d + 0) 38 (mm_ent 38 [(.ref 16), (.int x1)]) (107, I, J, mm_rf rv sp rr w nw) (fun v h => v = some (.int out) ∧ h = (107, I, J, mm_rf rv sp rr w nw)) := by
  unfold fX4_isWord at e
  refine mm_T.seg (f' := (5, [some (.ref 16), some (.int x1)], [(.int 1), (.int (I 16 5))])) (h' := (107, I, J, mm_rf rv sp rr w nw)) 3 rfl ?_
  refine mm_T.br (c := (I 16 5) = 1) (a := ((8, [some (.ref 16), some (.int x1)], []), (107, I, J, mm_rf rv sp rr w nw))) (b := ((20, [some (.ref 16), some (.int x1)], []), (107, I, J, mm_rf rv sp rr w nw))) rfl (fun h1487 => ?_) (fun h1487 => ?_)
  · rw [if_pos h1487] at e
    refine mm_T.seg (f' := (13, [some (.ref 16), some (.int x1)], [(.int x1), (.int (I 16 7))])) (h' := (107, I, J, mm_rf rv sp rr w nw)) 3 rfl ?_
    refine mm_T.br (c := (I 16 7) = x1) (a := ((16, [some (.ref 16), some (.int x1)], []), (107, I, J, mm_rf rv sp rr w nw))) (b := ((20, [some (.ref 16), some (.int x1)], []), (107, I, J, mm_rf rv sp rr w nw))) rfl (fun h1488 => ?_) (fun h1488 => ?_)
    · rw [if_pos h1488] at e
      refine mm_T.seg (f' := (21, [some (.ref 16), some (.int x1)], [(.int 1)])) (h' := (107, I, J, mm_rf rv sp rr w nw)) 2 rfl ?_
      cases e
      exact mm_T.ret rfl ⟨rfl, rfl⟩
    · rw [if_neg h1488] at e
      refine mm_T.seg (f' := (21, [some (.ref 16), some (.int x1)], [(.int 0)])) (h' := (107, I, J, mm_rf rv sp rr w nw)) 1 rfl ?_
      cases e
      exact mm_T.ret rfl ⟨rfl, rfl⟩
  · rw [if_neg h1487] at e
    refine mm_T.seg (f' := (21, [some (.ref 16), some (.int x1)], [(.int 0)])) (h' := (107, I, J, mm_rf rv sp rr w nw)) 1 rfl ?_
    cases e
    exact mm_T.ret rfl ⟨rfl, rfl⟩
set_option maxRecDepth 100000 in
set_option maxHeartbeats 4000000 in
theorem tX4_isSign (d : Nat) (x1 : Int32) (I : Nat → Nat → Int32) (J : Nat → Nat → Int64) (rv sp rr w nw : Nat) (out : Int32) (e : fX4_isSign x1 I = some out) : mm_T none (d + 1) 39 (mm_ent 39 [(.ref 16), (.int x1)]) (107, I, J, mm_rf rv sp rr w nw) (fun v h => v = some (.int out) ∧ h = (107, I, J, mm_rf rv sp rr w nw)) := by
  unfold fX4_isSign at e
  refine mm_T.seg (f' := (5, [some (.ref 16), some (.int x1)], [(.int 3), (.int (I 16 5))])) (h' := (107, I, J, mm_rf rv sp rr w nw)) 3 rfl ?_
  refine mm_T.br (c := (I 16 5) = 3) (a := ((8, [some (.ref 16), some (.int x1)], []), (107, I, J, mm_rf rv sp rr w nw))) (b := ((24, [some (.ref 16), some (.int x1)], []), (107, I, J, mm_rf rv sp rr w nw))) rfl (fun h1489 => ?_) (fun h1489 => ?_)
  · rw [if_pos h1489] at e
    refine mm_T.seg (f' := (13, [some (.ref 16), some (.int x1)], [(.int (I 16 3)), (.ref 16)])) (h' := (107, I, J, mm_rf rv sp rr w nw)) 3 rfl ?_
    obtain ⟨o1490, eo1490, e⟩ := mm_bind e
    refine mm_T.call (t := 31) (as := [(.ref 16), (.int (I 16 3))]) (f' := (16, [some (.ref 16), some (.int x1)], [])) rfl (tX4_byteAt (d + 0) (I 16 3) I J rv sp rr w nw o1490 eo1490) (fun v h hq => ?_)
    obtain ⟨rfl, rfl⟩ := hq
    refine mm_T.seg (f' := (17, [some (.ref 16), some (.int x1)], [(.int x1), (.int o1490)])) (h' := (107, I, J, mm_rf rv sp rr w nw)) 1 rfl ?_
    refine mm_T.br (c := o1490 = x1) (a := ((20, [some (.ref 16), some (.int x1)], []), (107, I, J, mm_rf rv sp rr w nw))) (b := ((24, [some (.ref 16), some (.int x1)], []), (107, I, J, mm_rf rv sp rr w nw))) rfl (fun h1491 => ?_) (fun h1491 => ?_)
    · rw [if_pos h1491] at e
      refine mm_T.seg (f' := (25, [some (.ref 16), some (.int x1)], [(.int 1)])) (h' := (107, I, J, mm_rf rv sp rr w nw)) 2 rfl ?_
      cases e
      exact mm_T.ret rfl ⟨rfl, rfl⟩
    · rw [if_neg h1491] at e
      refine mm_T.seg (f' := (25, [some (.ref 16), some (.int x1)], [(.int 0)])) (h' := (107, I, J, mm_rf rv sp rr w nw)) 1 rfl ?_
      cases e
      exact mm_T.ret rfl ⟨rfl, rfl⟩
  · rw [if_neg h1489] at e
    refine mm_T.seg (f' := (25, [some (.ref 16), some (.int x1)], [(.int 0)])) (h' := (107, I, J, mm_rf rv sp rr w nw)) 1 rfl ?_
    cases e
    exact mm_T.ret rfl ⟨rfl, rfl⟩
set_option maxRecDepth 100000 in
set_option maxHeartbeats 4000000 in
theorem tX4_passWord (d n : Nat) (x1 : Int32) (I : Nat → Nat → Int32) (J : Nat → Nat → Int64) (rv sp rr w nw : Nat) (out : Int32 × (Nat → Nat → Int32) × (Nat → Nat → Int64)) (e : fX4_passWord n x1 I J = some out) : mm_T none (d + 5) 40 (mm_ent 40 [(.ref 16), (.int x1)]) (107, I, J, mm_rf rv sp rr w nw) (fun v h => v = some (.int out.1) ∧ h = (107, out.2.1, out.2.2, mm_rf rv sp rr w nw)) := by
  unfold fX4_passWord at e
  refine mm_T.seg (f' := (2, [some (.ref 16), some (.int x1)], [(.int x1), (.ref 16)])) (h' := (107, I, J, mm_rf rv sp rr w nw)) 2 rfl ?_
  refine mm_T.call (t := 38) (as := [(.ref 16), (.int x1)]) (f' := (5, [some (.ref 16), some (.int x1)], [])) rfl (tX4_isWord (d + 4) x1 I J rv sp rr w nw _ rfl) (fun v h hq => ?_)
  obtain ⟨rfl, rfl⟩ := hq
  refine mm_T.br (c := (fX4_isWord x1 I) = 0) (a := ((8, [some (.ref 16), some (.int x1)], []), (107, I, J, mm_rf rv sp rr w nw))) (b := ((14, [some (.ref 16), some (.int x1)], []), (107, I, J, mm_rf rv sp rr w nw))) rfl (fun h1492 => ?_) (fun h1492 => ?_)
  · rw [if_pos h1492] at e
    refine mm_T.seg (f' := (10, [some (.ref 16), some (.int x1)], [(.int 2), (.ref 16)])) (h' := (107, I, J, mm_rf rv sp rr w nw)) 2 rfl ?_
    refine mm_T.call (t := 30) (as := [(.ref 16), (.int 2)]) (f' := (13, [some (.ref 16), some (.int x1)], [])) rfl (tX4_refuse (d + 4) 2 I J rv sp rr w nw _ rfl) (fun v h hq => ?_)
    obtain ⟨rfl, rfl⟩ := hq
    by_cases h1493 : (fX4_refuse 2 I).1 = 0 ∨ (fX4_refuse 2 I).1 = 1
    case neg => rw [if_neg h1493] at e; cases e
    rw [if_pos h1493] at e
    cases e
    first | exact mm_T.retZ (v := some (.int (fX4_refuse 2 I).1)) rfl h1493 ⟨rfl, rfl⟩ | exact mm_T.retZ (v := some (.int out)) rfl h1493 ⟨rfl, rfl⟩
  · rw [if_neg h1492] at e
    refine mm_T.seg (f' := (15, [some (.ref 16), some (.int x1)], [(.ref 16)])) (h' := (107, I, J, mm_rf rv sp rr w nw)) 1 rfl ?_
    obtain ⟨o1494, eo1494, e⟩ := mm_bind e
    refine mm_T.call (t := 34) (as := [(.ref 16)]) (f' := (18, [some (.ref 16), some (.int x1)], [])) rfl (tX4_advance (d + 0) n I J rv sp rr w nw o1494 eo1494) (fun v h hq => ?_)
    obtain ⟨rfl, rfl⟩ := hq
    refine mm_T.seg (f' := (19, [some (.ref 16), some (.int x1)], [(.int 1)])) (h' := (107, o1494.1, o1494.2, mm_rf rv sp rr w nw)) 1 rfl ?_
    cases e
    exact mm_T.ret rfl ⟨rfl, rfl⟩
set_option maxRecDepth 100000 in
set_option maxHeartbeats 4000000 in
theorem tX4_passEndOfLine (d n : Nat) (I : Nat → Nat → Int32) (J : Nat → Nat → Int64) (rv sp rr w nw : Nat) (out : Int32 × (Nat → Nat → Int32) × (Nat → Nat → Int64)) (e : fX4_passEndOfLine n I J = some out) : mm_T none (d + 5) 41 (mm_ent 41 [(.ref 16)]) (107, I, J, mm_rf rv sp rr w nw) (fun v h => v = some (.int out.1) ∧ h = (107, out.2.1, out.2.2, mm_rf rv sp rr w nw)) := by
  unfold fX4_passEndOfLine at e
  refine mm_T.seg (f' := (3, [some (.ref 16)], [(.int 59), (.ref 16)])) (h' := (107, I, J, mm_rf rv sp rr w nw)) 2 rfl ?_
  obtain ⟨o1495, eo1495, e⟩ := mm_bind e
  refine mm_T.call (t := 39) (as := [(.ref 16), (.int 59)]) (f' := (6, [some (.ref 16)], [])) rfl (tX4_isSign (d + 3) 59 I J rv sp rr w nw o1495 eo1495) (fun v h hq => ?_)
  obtain ⟨rfl, rfl⟩ := hq
  refine mm_T.br (c := o1495 = 0) (a := ((9, [some (.ref 16)], []), (107, I, J, mm_rf rv sp rr w nw))) (b := ((15, [some (.ref 16)], []), (107, I, J, mm_rf rv sp rr w nw))) rfl (fun h1496 => ?_) (fun h1496 => ?_)
  · rw [if_pos h1496] at e
    refine mm_T.seg (f' := (11, [some (.ref 16)], [(.int 2), (.ref 16)])) (h' := (107, I, J, mm_rf rv sp rr w nw)) 2 rfl ?_
    refine mm_T.call (t := 30) (as := [(.ref 16), (.int 2)]) (f' := (14, [some (.ref 16)], [])) rfl (tX4_refuse (d + 4) 2 I J rv sp rr w nw _ rfl) (fun v h hq => ?_)
    obtain ⟨rfl, rfl⟩ := hq
    by_cases h1497 : (fX4_refuse 2 I).1 = 0 ∨ (fX4_refuse 2 I).1 = 1
    case neg => rw [if_neg h1497] at e; cases e
    rw [if_pos h1497] at e
    cases e
    first | exact mm_T.retZ (v := some (.int (fX4_refuse 2 I).1)) rfl h1497 ⟨rfl, rfl⟩ | exact mm_T.retZ (v := some (.int out)) rfl h1497 ⟨rfl, rfl⟩
  · rw [if_neg h1496] at e
    refine mm_T.seg (f' := (16, [some (.ref 16)], [(.ref 16)])) (h' := (107, I, J, mm_rf rv sp rr w nw)) 1 rfl ?_
    obtain ⟨o1498, eo1498, e⟩ := mm_bind e
    refine mm_T.call (t := 34) (as := [(.ref 16)]) (f' := (19, [some (.ref 16)], [])) rfl (tX4_advance (d + 0) n I J rv sp rr w nw o1498 eo1498) (fun v h hq => ?_)
    obtain ⟨rfl, rfl⟩ := hq
    refine mm_T.seg (f' := (20, [some (.ref 16)], [(.int 1)])) (h' := (107, o1498.1, o1498.2, mm_rf rv sp rr w nw)) 1 rfl ?_
    cases e
    exact mm_T.ret rfl ⟨rfl, rfl⟩
set_option maxRecDepth 100000 in
set_option maxHeartbeats 4000000 in
theorem tX4_isNumber (d : Nat) (x1 : Int32) (x2 : Int32) (I : Nat → Nat → Int32) (J : Nat → Nat → Int64) (rv sp rr w nw : Nat) (out : Int32 × (Nat → Nat → Int32)) (e : fX4_isNumber x1 x2 I = some out) : mm_T none (d + 1) 42 (mm_ent 42 [(.ref 16), (.int x1), (.int x2)]) (107, I, J, mm_rf rv sp rr w nw) (fun v h => v = some (.int out.1) ∧ h = (107, out.2, J, mm_rf rv sp rr w nw)) := by
  unfold fX4_isNumber at e
  refine mm_T.seg (f' := (5, [some (.ref 16), some (.int x1), some (.int x2)], [(.int 2), (.int (I 16 5))])) (h' := (107, I, J, mm_rf rv sp rr w nw)) 3 rfl ?_
  refine mm_T.br (c := (I 16 5) = 2) (a := ((14, [some (.ref 16), some (.int x1), some (.int x2)], []), (107, I, J, mm_rf rv sp rr w nw))) (b := ((8, [some (.ref 16), some (.int x1), some (.int x2)], []), (107, I, J, mm_rf rv sp rr w nw))) rfl (fun h1499 => ?_) (fun h1499 => ?_)
  · rw [if_pos h1499] at e
    refine mm_T.seg (f' := (19, [some (.ref 16), some (.int x1), some (.int x2)], [(.int x1), (.int (I 16 6))])) (h' := (107, I, J, mm_rf rv sp rr w nw)) 3 rfl ?_
    refine mm_T.br (c := (I 16 6) < x1) (a := ((30, [some (.ref 16), some (.int x1), some (.int x2)], []), (107, I, J, mm_rf rv sp rr w nw))) (b := ((22, [some (.ref 16), some (.int x1), some (.int x2)], []), (107, I, J, mm_rf rv sp rr w nw))) rfl (fun h1500 => ?_) (fun h1500 => ?_)
    · rw [if_pos h1500] at e
      refine mm_T.seg (f' := (32, [some (.ref 16), some (.int x1), some (.int x2)], [(.int 4), (.ref 16)])) (h' := (107, I, J, mm_rf rv sp rr w nw)) 2 rfl ?_
      refine mm_T.call (t := 30) (as := [(.ref 16), (.int 4)]) (f' := (35, [some (.ref 16), some (.int x1), some (.int x2)], [])) rfl (tX4_refuse (d + 0) 4 I J rv sp rr w nw _ rfl) (fun v h hq => ?_)
      obtain ⟨rfl, rfl⟩ := hq
      refine mm_T.br (c := (fX4_refuse 4 I).1 = 0) (a := ((42, [some (.ref 16), some (.int x1), some (.int x2)], []), (107, (fX4_refuse 4 I).2, J, mm_rf rv sp rr w nw))) (b := ((38, [some (.ref 16), some (.int x1), some (.int x2)], []), (107, (fX4_refuse 4 I).2, J, mm_rf rv sp rr w nw))) rfl (fun h1501 => ?_) (fun h1501 => ?_)
      · rw [if_pos h1501] at e
        refine mm_T.seg (f' := (43, [some (.ref 16), some (.int x1), some (.int x2)], [(.int 0)])) (h' := (107, (fX4_refuse 4 I).2, J, mm_rf rv sp rr w nw)) 1 rfl ?_
        cases e
        exact mm_T.ret rfl ⟨rfl, rfl⟩
      · rw [if_neg h1501] at e
        refine mm_T.seg (f' := (43, [some (.ref 16), some (.int x1), some (.int x2)], [(.int 1)])) (h' := (107, (fX4_refuse 4 I).2, J, mm_rf rv sp rr w nw)) 2 rfl ?_
        cases e
        exact mm_T.ret rfl ⟨rfl, rfl⟩
    · rw [if_neg h1500] at e
      refine mm_T.seg (f' := (27, [some (.ref 16), some (.int x1), some (.int x2)], [(.int x2), (.int (I 16 6))])) (h' := (107, I, J, mm_rf rv sp rr w nw)) 3 rfl ?_
      refine mm_T.br (c := x2 < (I 16 6)) (a := ((30, [some (.ref 16), some (.int x1), some (.int x2)], []), (107, I, J, mm_rf rv sp rr w nw))) (b := ((38, [some (.ref 16), some (.int x1), some (.int x2)], []), (107, I, J, mm_rf rv sp rr w nw))) rfl (fun h1502 => ?_) (fun h1502 => ?_)
      · rw [if_pos h1502] at e
        refine mm_T.seg (f' := (32, [some (.ref 16), some (.int x1), some (.int x2)], [(.int 4), (.ref 16)])) (h' := (107, I, J, mm_rf rv sp rr w nw)) 2 rfl ?_
        refine mm_T.call (t := 30) (as := [(.ref 16), (.int 4)]) (f' := (35, [some (.ref 16), some (.int x1), some (.int x2)], [])) rfl (tX4_refuse (d + 0) 4 I J rv sp rr w nw _ rfl) (fun v h hq => ?_)
        obtain ⟨rfl, rfl⟩ := hq
        refine mm_T.br (c := (fX4_refuse 4 I).1 = 0) (a := ((42, [some (.ref 16), some (.int x1), some (.int x2)], []), (107, (fX4_refuse 4 I).2, J, mm_rf rv sp rr w nw))) (b := ((38, [some (.ref 16), some (.int x1), some (.int x2)], []), (107, (fX4_refuse 4 I).2, J, mm_rf rv sp rr w nw))) rfl (fun h1503 => ?_) (fun h1503 => ?_)
        · rw [if_pos h1503] at e
          refine mm_T.seg (f' := (43, [some (.ref 16), some (.int x1), some (.int x2)], [(.int 0)])) (h' := (107, (fX4_refuse 4 I).2, J, mm_rf rv sp rr w nw)) 1 rfl ?_
          cases e
          exact mm_T.ret rfl ⟨rfl, rfl⟩
        · rw [if_neg h1503] at e
          refine mm_T.seg (f' := (43, [some (.ref 16), some (.int x1), some (.int x2)], [(.int 1)])) (h' := (107, (fX4_refuse 4 I).2, J, mm_rf rv sp rr w nw)) 2 rfl ?_
          cases e
          exact mm_T.ret rfl ⟨rfl, rfl⟩
      · rw [if_neg h1502] at e
        refine mm_T.seg (f' := (43, [some (.ref 16), some (.int x1), some (.int x2)], [(.int 1)])) (h' := (107, I, J, mm_rf rv sp rr w nw)) 2 rfl ?_
        cases e
        exact mm_T.ret rfl ⟨rfl, rfl⟩
  · rw [if_neg h1499] at e
    refine mm_T.seg (f' := (10, [some (.ref 16), some (.int x1), some (.int x2)], [(.int 2), (.ref 16)])) (h' := (107, I, J, mm_rf rv sp rr w nw)) 2 rfl ?_
    refine mm_T.call (t := 30) (as := [(.ref 16), (.int 2)]) (f' := (13, [some (.ref 16), some (.int x1), some (.int x2)], [])) rfl (tX4_refuse (d + 0) 2 I J rv sp rr w nw _ rfl) (fun v h hq => ?_)
    obtain ⟨rfl, rfl⟩ := hq
    by_cases h1504 : (fX4_refuse 2 I).1 = 0 ∨ (fX4_refuse 2 I).1 = 1
    case neg => rw [if_neg h1504] at e; cases e
    rw [if_pos h1504] at e
    cases e
    first | exact mm_T.retZ (v := some (.int (fX4_refuse 2 I).1)) rfl h1504 ⟨rfl, rfl⟩ | exact mm_T.retZ (v := some (.int out)) rfl h1504 ⟨rfl, rfl⟩
set_option maxRecDepth 100000 in
set_option maxHeartbeats 4000000 in
theorem tX4_passNumber (d n : Nat) (x1 : Int32) (x2 : Int32) (I : Nat → Nat → Int32) (J : Nat → Nat → Int64) (rv sp rr w nw : Nat) (out : Int32 × (Nat → Nat → Int32) × (Nat → Nat → Int64)) (e : fX4_passNumber n x1 x2 I J = some out) : mm_T none (d + 5) 43 (mm_ent 43 [(.ref 16), (.int x1), (.int x2)]) (107, I, J, mm_rf rv sp rr w nw) (fun v h => v = some (.int out.1) ∧ h = (107, out.2.1, out.2.2, mm_rf rv sp rr w nw)) := by
  unfold fX4_passNumber at e
  refine mm_T.seg (f' := (3, [some (.ref 16), some (.int x1), some (.int x2), none], [(.int x2), (.int x1), (.ref 16)])) (h' := (107, I, J, mm_rf rv sp rr w nw)) 3 rfl ?_
  obtain ⟨o1505, eo1505, e⟩ := mm_bind e
  refine mm_T.call (t := 42) (as := [(.ref 16), (.int x1), (.int x2)]) (f' := (6, [some (.ref 16), some (.int x1), some (.int x2), none], [])) rfl (tX4_isNumber (d + 3) x1 x2 I J rv sp rr w nw o1505 eo1505) (fun v h hq => ?_)
  obtain ⟨rfl, rfl⟩ := hq
  refine mm_T.br (c := o1505.1 = 0) (a := ((9, [some (.ref 16), some (.int x1), some (.int x2), none], []), (107, o1505.2, J, mm_rf rv sp rr w nw))) (b := ((11, [some (.ref 16), some (.int x1), some (.int x2), none], []), (107, o1505.2, J, mm_rf rv sp rr w nw))) rfl (fun h1506 => ?_) (fun h1506 => ?_)
  · rw [if_pos h1506] at e
    refine mm_T.seg (f' := (10, [some (.ref 16), some (.int x1), some (.int x2), none], [(.int (-1))])) (h' := (107, o1505.2, J, mm_rf rv sp rr w nw)) 1 rfl ?_
    cases e
    exact mm_T.ret rfl ⟨rfl, rfl⟩
  · rw [if_neg h1506] at e
    refine mm_T.seg (f' := (17, [some (.ref 16), some (.int x1), some (.int x2), some (.int (o1505.2 16 6))], [(.ref 16)])) (h' := (107, o1505.2, J, mm_rf rv sp rr w nw)) 4 rfl ?_
    obtain ⟨o1507, eo1507, e⟩ := mm_bind e
    refine mm_T.call (t := 34) (as := [(.ref 16)]) (f' := (20, [some (.ref 16), some (.int x1), some (.int x2), some (.int (o1505.2 16 6))], [])) rfl (tX4_advance (d + 0) n o1505.2 J rv sp rr w nw o1507 eo1507) (fun v h hq => ?_)
    obtain ⟨rfl, rfl⟩ := hq
    refine mm_T.seg (f' := (21, [some (.ref 16), some (.int x1), some (.int x2), some (.int (o1505.2 16 6))], [(.int (o1505.2 16 6))])) (h' := (107, o1507.1, o1507.2, mm_rf rv sp rr w nw)) 1 rfl ?_
    cases e
    exact mm_T.ret rfl ⟨rfl, rfl⟩
set_option maxRecDepth 100000 in
set_option maxHeartbeats 4000000 in
theorem tX4_mayBegin (d : Nat) (x1 : Int32) (I : Nat → Nat → Int32) (J : Nat → Nat → Int64) (rv sp rr w nw : Nat) (hrr : rr = 3 ∨ rr = 19) (out : Int32) (e : fX4_mayBegin x1 I rr = out) : mm_T none (d + 0) 45 (mm_ent 45 [(.ref 16), (.int x1)]) (107, I, J, mm_rf rv sp rr w nw) (fun v h => v = some (.int out) ∧ h = (107, I, J, mm_rf rv sp rr w nw)) := by
  rcases hrr with rfl | rfl
  · unfold fX4_mayBegin at e
    refine mm_T.seg (f' := (1, [some (.ref 16), some (.int x1)], [(.int x1)])) (h' := (107, I, J, mm_rf rv sp 3 w nw)) 1 rfl ?_
    by_cases h1509 : x1 = 0
    · rw [if_pos h1509] at e
      refine mm_T.step (f' := (48, [some (.ref 16), some (.int x1)], [])) (h' := (107, I, J, mm_rf rv sp 3 w nw)) (by first | (rw [h1509]; rfl) | exact absurd h1509 (by decide)) ?_
      refine mm_T.seg (f' := (52, [some (.ref 16), some (.int x1)], [(.int (I 16 9))])) (h' := (107, I, J, mm_rf rv sp 3 w nw)) 2 rfl ?_
      refine mm_T.br (c := (I 16 9) = 0) (a := ((55, [some (.ref 16), some (.int x1)], []), (107, I, J, mm_rf rv sp 3 w nw))) (b := ((59, [some (.ref 16), some (.int x1)], []), (107, I, J, mm_rf rv sp 3 w nw))) rfl (fun h1510 => ?_) (fun h1510 => ?_)
      · rw [if_pos h1510] at e
        refine mm_T.seg (f' := (60, [some (.ref 16), some (.int x1)], [(.int 1)])) (h' := (107, I, J, mm_rf rv sp 3 w nw)) 2 rfl ?_
        cases e
        exact mm_T.ret rfl ⟨rfl, rfl⟩
      · rw [if_neg h1510] at e
        refine mm_T.seg (f' := (60, [some (.ref 16), some (.int x1)], [(.int 0)])) (h' := (107, I, J, mm_rf rv sp 3 w nw)) 1 rfl ?_
        cases e
        exact mm_T.ret rfl ⟨rfl, rfl⟩
    · rw [if_neg h1509] at e
      by_cases h1511 : x1 = 1
      · rw [if_pos h1511] at e
        refine mm_T.step (f' := (61, [some (.ref 16), some (.int x1)], [])) (h' := (107, I, J, mm_rf rv sp 3 w nw)) (by first | (rw [h1511]; rfl) | exact absurd h1511 (by decide)) ?_
        refine mm_T.seg (f' := (70, [some (.ref 16), some (.int x1)], [(.int 16), (.int (I 3 2))])) (h' := (107, I, J, mm_rf rv sp 3 w nw)) 4 rfl ?_
        refine mm_T.br (c := (I 3 2) < 16) (a := ((73, [some (.ref 16), some (.int x1)], []), (107, I, J, mm_rf rv sp 3 w nw))) (b := ((77, [some (.ref 16), some (.int x1)], []), (107, I, J, mm_rf rv sp 3 w nw))) rfl (fun h1512 => ?_) (fun h1512 => ?_)
        · rw [if_pos h1512] at e
          refine mm_T.seg (f' := (78, [some (.ref 16), some (.int x1)], [(.int 1)])) (h' := (107, I, J, mm_rf rv sp 3 w nw)) 2 rfl ?_
          cases e
          exact mm_T.ret rfl ⟨rfl, rfl⟩
        · rw [if_neg h1512] at e
          refine mm_T.seg (f' := (78, [some (.ref 16), some (.int x1)], [(.int 0)])) (h' := (107, I, J, mm_rf rv sp 3 w nw)) 1 rfl ?_
          cases e
          exact mm_T.ret rfl ⟨rfl, rfl⟩
      · rw [if_neg h1511] at e
        by_cases h1513 : x1 = 2
        · rw [if_pos h1513] at e
          refine mm_T.step (f' := (79, [some (.ref 16), some (.int x1)], [])) (h' := (107, I, J, mm_rf rv sp 3 w nw)) (by first | (rw [h1513]; rfl) | exact absurd h1513 (by decide)) ?_
          refine mm_T.seg (f' := (88, [some (.ref 16), some (.int x1)], [(.int 6), (.int (I 3 3))])) (h' := (107, I, J, mm_rf rv sp 3 w nw)) 4 rfl ?_
          refine mm_T.br (c := (I 3 3) < 6) (a := ((91, [some (.ref 16), some (.int x1)], []), (107, I, J, mm_rf rv sp 3 w nw))) (b := ((95, [some (.ref 16), some (.int x1)], []), (107, I, J, mm_rf rv sp 3 w nw))) rfl (fun h1514 => ?_) (fun h1514 => ?_)
          · rw [if_pos h1514] at e
            refine mm_T.seg (f' := (96, [some (.ref 16), some (.int x1)], [(.int 1)])) (h' := (107, I, J, mm_rf rv sp 3 w nw)) 2 rfl ?_
            cases e
            exact mm_T.ret rfl ⟨rfl, rfl⟩
          · rw [if_neg h1514] at e
            refine mm_T.seg (f' := (96, [some (.ref 16), some (.int x1)], [(.int 0)])) (h' := (107, I, J, mm_rf rv sp 3 w nw)) 1 rfl ?_
            cases e
            exact mm_T.ret rfl ⟨rfl, rfl⟩
        · rw [if_neg h1513] at e
          by_cases h1515 : x1 = 3
          · rw [if_pos h1515] at e
            refine mm_T.step (f' := (97, [some (.ref 16), some (.int x1)], [])) (h' := (107, I, J, mm_rf rv sp 3 w nw)) (by first | (rw [h1515]; rfl) | exact absurd h1515 (by decide)) ?_
            refine mm_T.seg (f' := (105, [some (.ref 16), some (.int x1)], [(.int 4), (.int (I 3 4))])) (h' := (107, I, J, mm_rf rv sp 3 w nw)) 4 rfl ?_
            refine mm_T.br (c := (I 3 4) < 4) (a := ((108, [some (.ref 16), some (.int x1)], []), (107, I, J, mm_rf rv sp 3 w nw))) (b := ((112, [some (.ref 16), some (.int x1)], []), (107, I, J, mm_rf rv sp 3 w nw))) rfl (fun h1516 => ?_) (fun h1516 => ?_)
            · rw [if_pos h1516] at e
              refine mm_T.seg (f' := (113, [some (.ref 16), some (.int x1)], [(.int 1)])) (h' := (107, I, J, mm_rf rv sp 3 w nw)) 2 rfl ?_
              cases e
              exact mm_T.ret rfl ⟨rfl, rfl⟩
            · rw [if_neg h1516] at e
              refine mm_T.seg (f' := (113, [some (.ref 16), some (.int x1)], [(.int 0)])) (h' := (107, I, J, mm_rf rv sp 3 w nw)) 1 rfl ?_
              cases e
              exact mm_T.ret rfl ⟨rfl, rfl⟩
          · rw [if_neg h1515] at e
            by_cases h1517 : x1 = 4
            · rw [if_pos h1517] at e
              refine mm_T.step (f' := (114, [some (.ref 16), some (.int x1)], [])) (h' := (107, I, J, mm_rf rv sp 3 w nw)) (by first | (rw [h1517]; rfl) | exact absurd h1517 (by decide)) ?_
              refine mm_T.seg (f' := (123, [some (.ref 16), some (.int x1)], [(.int 7), (.int (I 3 5))])) (h' := (107, I, J, mm_rf rv sp 3 w nw)) 4 rfl ?_
              refine mm_T.br (c := (I 3 5) < 7) (a := ((126, [some (.ref 16), some (.int x1)], []), (107, I, J, mm_rf rv sp 3 w nw))) (b := ((130, [some (.ref 16), some (.int x1)], []), (107, I, J, mm_rf rv sp 3 w nw))) rfl (fun h1518 => ?_) (fun h1518 => ?_)
              · rw [if_pos h1518] at e
                refine mm_T.seg (f' := (131, [some (.ref 16), some (.int x1)], [(.int 1)])) (h' := (107, I, J, mm_rf rv sp 3 w nw)) 2 rfl ?_
                cases e
                exact mm_T.ret rfl ⟨rfl, rfl⟩
              · rw [if_neg h1518] at e
                refine mm_T.seg (f' := (131, [some (.ref 16), some (.int x1)], [(.int 0)])) (h' := (107, I, J, mm_rf rv sp 3 w nw)) 1 rfl ?_
                cases e
                exact mm_T.ret rfl ⟨rfl, rfl⟩
            · rw [if_neg h1517] at e
              by_cases h1519 : x1 = 5
              · rw [if_pos h1519] at e
                refine mm_T.step (f' := (132, [some (.ref 16), some (.int x1)], [])) (h' := (107, I, J, mm_rf rv sp 3 w nw)) (by first | (rw [h1519]; rfl) | exact absurd h1519 (by decide)) ?_
                refine mm_T.seg (f' := (140, [some (.ref 16), some (.int x1)], [(.int (((I 16 9) >>> (x1 &&& 31)) &&& 1))])) (h' := (107, I, J, mm_rf rv sp 3 w nw)) 6 rfl ?_
                refine mm_T.br (c := (((I 16 9) >>> (x1 &&& 31)) &&& 1) = 0) (a := ((143, [some (.ref 16), some (.int x1)], []), (107, I, J, mm_rf rv sp 3 w nw))) (b := ((147, [some (.ref 16), some (.int x1)], []), (107, I, J, mm_rf rv sp 3 w nw))) rfl (fun h1520 => ?_) (fun h1520 => ?_)
                · rw [if_pos h1520] at e
                  refine mm_T.seg (f' := (148, [some (.ref 16), some (.int x1)], [(.int 1)])) (h' := (107, I, J, mm_rf rv sp 3 w nw)) 2 rfl ?_
                  cases e
                  exact mm_T.ret rfl ⟨rfl, rfl⟩
                · rw [if_neg h1520] at e
                  refine mm_T.seg (f' := (148, [some (.ref 16), some (.int x1)], [(.int 0)])) (h' := (107, I, J, mm_rf rv sp 3 w nw)) 1 rfl ?_
                  cases e
                  exact mm_T.ret rfl ⟨rfl, rfl⟩
              · rw [if_neg h1519] at e
                by_cases h1521 : x1 = 6
                · rw [if_pos h1521] at e
                  refine mm_T.step (f' := (132, [some (.ref 16), some (.int x1)], [])) (h' := (107, I, J, mm_rf rv sp 3 w nw)) (by first | (rw [h1521]; rfl) | exact absurd h1521 (by decide)) ?_
                  refine mm_T.seg (f' := (140, [some (.ref 16), some (.int x1)], [(.int (((I 16 9) >>> (x1 &&& 31)) &&& 1))])) (h' := (107, I, J, mm_rf rv sp 3 w nw)) 6 rfl ?_
                  refine mm_T.br (c := (((I 16 9) >>> (x1 &&& 31)) &&& 1) = 0) (a := ((143, [some (.ref 16), some (.int x1)], []), (107, I, J, mm_rf rv sp 3 w nw))) (b := ((147, [some (.ref 16), some (.int x1)], []), (107, I, J, mm_rf rv sp 3 w nw))) rfl (fun h1522 => ?_) (fun h1522 => ?_)
                  · rw [if_pos h1522] at e
                    refine mm_T.seg (f' := (148, [some (.ref 16), some (.int x1)], [(.int 1)])) (h' := (107, I, J, mm_rf rv sp 3 w nw)) 2 rfl ?_
                    cases e
                    exact mm_T.ret rfl ⟨rfl, rfl⟩
                  · rw [if_neg h1522] at e
                    refine mm_T.seg (f' := (148, [some (.ref 16), some (.int x1)], [(.int 0)])) (h' := (107, I, J, mm_rf rv sp 3 w nw)) 1 rfl ?_
                    cases e
                    exact mm_T.ret rfl ⟨rfl, rfl⟩
                · rw [if_neg h1521] at e
                  by_cases h1523 : x1 = 7
                  · rw [if_pos h1523] at e
                    refine mm_T.step (f' := (132, [some (.ref 16), some (.int x1)], [])) (h' := (107, I, J, mm_rf rv sp 3 w nw)) (by first | (rw [h1523]; rfl) | exact absurd h1523 (by decide)) ?_
                    refine mm_T.seg (f' := (140, [some (.ref 16), some (.int x1)], [(.int (((I 16 9) >>> (x1 &&& 31)) &&& 1))])) (h' := (107, I, J, mm_rf rv sp 3 w nw)) 6 rfl ?_
                    refine mm_T.br (c := (((I 16 9) >>> (x1 &&& 31)) &&& 1) = 0) (a := ((143, [some (.ref 16), some (.int x1)], []), (107, I, J, mm_rf rv sp 3 w nw))) (b := ((147, [some (.ref 16), some (.int x1)], []), (107, I, J, mm_rf rv sp 3 w nw))) rfl (fun h1524 => ?_) (fun h1524 => ?_)
                    · rw [if_pos h1524] at e
                      refine mm_T.seg (f' := (148, [some (.ref 16), some (.int x1)], [(.int 1)])) (h' := (107, I, J, mm_rf rv sp 3 w nw)) 2 rfl ?_
                      cases e
                      exact mm_T.ret rfl ⟨rfl, rfl⟩
                    · rw [if_neg h1524] at e
                      refine mm_T.seg (f' := (148, [some (.ref 16), some (.int x1)], [(.int 0)])) (h' := (107, I, J, mm_rf rv sp 3 w nw)) 1 rfl ?_
                      cases e
                      exact mm_T.ret rfl ⟨rfl, rfl⟩
                  · rw [if_neg h1523] at e
                    refine mm_T.tabs (lo := 0) (hi := 7) (y := ((149, [some (.ref 16), some (.int x1)], []), (107, I, J, mm_rf rv sp 3 w nw))) rfl (mm_swo (0) (7) x1 [0, 1, 2, 3, 4, 5, 6, 7] (by decide) (by intro z hz; simp only [List.mem_cons, List.not_mem_nil, or_false] at hz; rcases hz with rfl | rfl | rfl | rfl | rfl | rfl | rfl | rfl <;> first | assumption | decide)) ?_
                    refine mm_T.seg (f' := (150, [some (.ref 16), some (.int x1)], [(.int 0)])) (h' := (107, I, J, mm_rf rv sp 3 w nw)) 1 rfl ?_
                    cases e
                    exact mm_T.ret rfl ⟨rfl, rfl⟩
  · unfold fX4_mayBegin at e
    refine mm_T.seg (f' := (1, [some (.ref 16), some (.int x1)], [(.int x1)])) (h' := (107, I, J, mm_rf rv sp 19 w nw)) 1 rfl ?_
    by_cases h1509 : x1 = 0
    · rw [if_pos h1509] at e
      refine mm_T.step (f' := (48, [some (.ref 16), some (.int x1)], [])) (h' := (107, I, J, mm_rf rv sp 19 w nw)) (by first | (rw [h1509]; rfl) | exact absurd h1509 (by decide)) ?_
      refine mm_T.seg (f' := (52, [some (.ref 16), some (.int x1)], [(.int (I 16 9))])) (h' := (107, I, J, mm_rf rv sp 19 w nw)) 2 rfl ?_
      refine mm_T.br (c := (I 16 9) = 0) (a := ((55, [some (.ref 16), some (.int x1)], []), (107, I, J, mm_rf rv sp 19 w nw))) (b := ((59, [some (.ref 16), some (.int x1)], []), (107, I, J, mm_rf rv sp 19 w nw))) rfl (fun h1510 => ?_) (fun h1510 => ?_)
      · rw [if_pos h1510] at e
        refine mm_T.seg (f' := (60, [some (.ref 16), some (.int x1)], [(.int 1)])) (h' := (107, I, J, mm_rf rv sp 19 w nw)) 2 rfl ?_
        cases e
        exact mm_T.ret rfl ⟨rfl, rfl⟩
      · rw [if_neg h1510] at e
        refine mm_T.seg (f' := (60, [some (.ref 16), some (.int x1)], [(.int 0)])) (h' := (107, I, J, mm_rf rv sp 19 w nw)) 1 rfl ?_
        cases e
        exact mm_T.ret rfl ⟨rfl, rfl⟩
    · rw [if_neg h1509] at e
      by_cases h1511 : x1 = 1
      · rw [if_pos h1511] at e
        refine mm_T.step (f' := (61, [some (.ref 16), some (.int x1)], [])) (h' := (107, I, J, mm_rf rv sp 19 w nw)) (by first | (rw [h1511]; rfl) | exact absurd h1511 (by decide)) ?_
        refine mm_T.seg (f' := (70, [some (.ref 16), some (.int x1)], [(.int 16), (.int (I 19 2))])) (h' := (107, I, J, mm_rf rv sp 19 w nw)) 4 rfl ?_
        refine mm_T.br (c := (I 19 2) < 16) (a := ((73, [some (.ref 16), some (.int x1)], []), (107, I, J, mm_rf rv sp 19 w nw))) (b := ((77, [some (.ref 16), some (.int x1)], []), (107, I, J, mm_rf rv sp 19 w nw))) rfl (fun h1512 => ?_) (fun h1512 => ?_)
        · rw [if_pos h1512] at e
          refine mm_T.seg (f' := (78, [some (.ref 16), some (.int x1)], [(.int 1)])) (h' := (107, I, J, mm_rf rv sp 19 w nw)) 2 rfl ?_
          cases e
          exact mm_T.ret rfl ⟨rfl, rfl⟩
        · rw [if_neg h1512] at e
          refine mm_T.seg (f' := (78, [some (.ref 16), some (.int x1)], [(.int 0)])) (h' := (107, I, J, mm_rf rv sp 19 w nw)) 1 rfl ?_
          cases e
          exact mm_T.ret rfl ⟨rfl, rfl⟩
      · rw [if_neg h1511] at e
        by_cases h1513 : x1 = 2
        · rw [if_pos h1513] at e
          refine mm_T.step (f' := (79, [some (.ref 16), some (.int x1)], [])) (h' := (107, I, J, mm_rf rv sp 19 w nw)) (by first | (rw [h1513]; rfl) | exact absurd h1513 (by decide)) ?_
          refine mm_T.seg (f' := (88, [some (.ref 16), some (.int x1)], [(.int 6), (.int (I 19 3))])) (h' := (107, I, J, mm_rf rv sp 19 w nw)) 4 rfl ?_
          refine mm_T.br (c := (I 19 3) < 6) (a := ((91, [some (.ref 16), some (.int x1)], []), (107, I, J, mm_rf rv sp 19 w nw))) (b := ((95, [some (.ref 16), some (.int x1)], []), (107, I, J, mm_rf rv sp 19 w nw))) rfl (fun h1514 => ?_) (fun h1514 => ?_)
          · rw [if_pos h1514] at e
            refine mm_T.seg (f' := (96, [some (.ref 16), some (.int x1)], [(.int 1)])) (h' := (107, I, J, mm_rf rv sp 19 w nw)) 2 rfl ?_
            cases e
            exact mm_T.ret rfl ⟨rfl, rfl⟩
          · rw [if_neg h1514] at e
            refine mm_T.seg (f' := (96, [some (.ref 16), some (.int x1)], [(.int 0)])) (h' := (107, I, J, mm_rf rv sp 19 w nw)) 1 rfl ?_
            cases e
            exact mm_T.ret rfl ⟨rfl, rfl⟩
        · rw [if_neg h1513] at e
          by_cases h1515 : x1 = 3
          · rw [if_pos h1515] at e
            refine mm_T.step (f' := (97, [some (.ref 16), some (.int x1)], [])) (h' := (107, I, J, mm_rf rv sp 19 w nw)) (by first | (rw [h1515]; rfl) | exact absurd h1515 (by decide)) ?_
            refine mm_T.seg (f' := (105, [some (.ref 16), some (.int x1)], [(.int 4), (.int (I 19 4))])) (h' := (107, I, J, mm_rf rv sp 19 w nw)) 4 rfl ?_
            refine mm_T.br (c := (I 19 4) < 4) (a := ((108, [some (.ref 16), some (.int x1)], []), (107, I, J, mm_rf rv sp 19 w nw))) (b := ((112, [some (.ref 16), some (.int x1)], []), (107, I, J, mm_rf rv sp 19 w nw))) rfl (fun h1516 => ?_) (fun h1516 => ?_)
            · rw [if_pos h1516] at e
              refine mm_T.seg (f' := (113, [some (.ref 16), some (.int x1)], [(.int 1)])) (h' := (107, I, J, mm_rf rv sp 19 w nw)) 2 rfl ?_
              cases e
              exact mm_T.ret rfl ⟨rfl, rfl⟩
            · rw [if_neg h1516] at e
              refine mm_T.seg (f' := (113, [some (.ref 16), some (.int x1)], [(.int 0)])) (h' := (107, I, J, mm_rf rv sp 19 w nw)) 1 rfl ?_
              cases e
              exact mm_T.ret rfl ⟨rfl, rfl⟩
          · rw [if_neg h1515] at e
            by_cases h1517 : x1 = 4
            · rw [if_pos h1517] at e
              refine mm_T.step (f' := (114, [some (.ref 16), some (.int x1)], [])) (h' := (107, I, J, mm_rf rv sp 19 w nw)) (by first | (rw [h1517]; rfl) | exact absurd h1517 (by decide)) ?_
              refine mm_T.seg (f' := (123, [some (.ref 16), some (.int x1)], [(.int 7), (.int (I 19 5))])) (h' := (107, I, J, mm_rf rv sp 19 w nw)) 4 rfl ?_
              refine mm_T.br (c := (I 19 5) < 7) (a := ((126, [some (.ref 16), some (.int x1)], []), (107, I, J, mm_rf rv sp 19 w nw))) (b := ((130, [some (.ref 16), some (.int x1)], []), (107, I, J, mm_rf rv sp 19 w nw))) rfl (fun h1518 => ?_) (fun h1518 => ?_)
              · rw [if_pos h1518] at e
                refine mm_T.seg (f' := (131, [some (.ref 16), some (.int x1)], [(.int 1)])) (h' := (107, I, J, mm_rf rv sp 19 w nw)) 2 rfl ?_
                cases e
                exact mm_T.ret rfl ⟨rfl, rfl⟩
              · rw [if_neg h1518] at e
                refine mm_T.seg (f' := (131, [some (.ref 16), some (.int x1)], [(.int 0)])) (h' := (107, I, J, mm_rf rv sp 19 w nw)) 1 rfl ?_
                cases e
                exact mm_T.ret rfl ⟨rfl, rfl⟩
            · rw [if_neg h1517] at e
              by_cases h1519 : x1 = 5
              · rw [if_pos h1519] at e
                refine mm_T.step (f' := (132, [some (.ref 16), some (.int x1)], [])) (h' := (107, I, J, mm_rf rv sp 19 w nw)) (by first | (rw [h1519]; rfl) | exact absurd h1519 (by decide)) ?_
                refine mm_T.seg (f' := (140, [some (.ref 16), some (.int x1)], [(.int (((I 16 9) >>> (x1 &&& 31)) &&& 1))])) (h' := (107, I, J, mm_rf rv sp 19 w nw)) 6 rfl ?_
                refine mm_T.br (c := (((I 16 9) >>> (x1 &&& 31)) &&& 1) = 0) (a := ((143, [some (.ref 16), some (.int x1)], []), (107, I, J, mm_rf rv sp 19 w nw))) (b := ((147, [some (.ref 16), some (.int x1)], []), (107, I, J, mm_rf rv sp 19 w nw))) rfl (fun h1520 => ?_) (fun h1520 => ?_)
                · rw [if_pos h1520] at e
                  refine mm_T.seg (f' := (148, [some (.ref 16), some (.int x1)], [(.int 1)])) (h' := (107, I, J, mm_rf rv sp 19 w nw)) 2 rfl ?_
                  cases e
                  exact mm_T.ret rfl ⟨rfl, rfl⟩
                · rw [if_neg h1520] at e
                  refine mm_T.seg (f' := (148, [some (.ref 16), some (.int x1)], [(.int 0)])) (h' := (107, I, J, mm_rf rv sp 19 w nw)) 1 rfl ?_
                  cases e
                  exact mm_T.ret rfl ⟨rfl, rfl⟩
              · rw [if_neg h1519] at e
                by_cases h1521 : x1 = 6
                · rw [if_pos h1521] at e
                  refine mm_T.step (f' := (132, [some (.ref 16), some (.int x1)], [])) (h' := (107, I, J, mm_rf rv sp 19 w nw)) (by first | (rw [h1521]; rfl) | exact absurd h1521 (by decide)) ?_
                  refine mm_T.seg (f' := (140, [some (.ref 16), some (.int x1)], [(.int (((I 16 9) >>> (x1 &&& 31)) &&& 1))])) (h' := (107, I, J, mm_rf rv sp 19 w nw)) 6 rfl ?_
                  refine mm_T.br (c := (((I 16 9) >>> (x1 &&& 31)) &&& 1) = 0) (a := ((143, [some (.ref 16), some (.int x1)], []), (107, I, J, mm_rf rv sp 19 w nw))) (b := ((147, [some (.ref 16), some (.int x1)], []), (107, I, J, mm_rf rv sp 19 w nw))) rfl (fun h1522 => ?_) (fun h1522 => ?_)
                  · rw [if_pos h1522] at e
                    refine mm_T.seg (f' := (148, [some (.ref 16), some (.int x1)], [(.int 1)])) (h' := (107, I, J, mm_rf rv sp 19 w nw)) 2 rfl ?_
                    cases e
                    exact mm_T.ret rfl ⟨rfl, rfl⟩
                  · rw [if_neg h1522] at e
                    refine mm_T.seg (f' := (148, [some (.ref 16), some (.int x1)], [(.int 0)])) (h' := (107, I, J, mm_rf rv sp 19 w nw)) 1 rfl ?_
                    cases e
                    exact mm_T.ret rfl ⟨rfl, rfl⟩
                · rw [if_neg h1521] at e
                  by_cases h1523 : x1 = 7
                  · rw [if_pos h1523] at e
                    refine mm_T.step (f' := (132, [some (.ref 16), some (.int x1)], [])) (h' := (107, I, J, mm_rf rv sp 19 w nw)) (by first | (rw [h1523]; rfl) | exact absurd h1523 (by decide)) ?_
                    refine mm_T.seg (f' := (140, [some (.ref 16), some (.int x1)], [(.int (((I 16 9) >>> (x1 &&& 31)) &&& 1))])) (h' := (107, I, J, mm_rf rv sp 19 w nw)) 6 rfl ?_
                    refine mm_T.br (c := (((I 16 9) >>> (x1 &&& 31)) &&& 1) = 0) (a := ((143, [some (.ref 16), some (.int x1)], []), (107, I, J, mm_rf rv sp 19 w nw))) (b := ((147, [some (.ref 16), some (.int x1)], []), (107, I, J, mm_rf rv sp 19 w nw))) rfl (fun h1524 => ?_) (fun h1524 => ?_)
                    · rw [if_pos h1524] at e
                      refine mm_T.seg (f' := (148, [some (.ref 16), some (.int x1)], [(.int 1)])) (h' := (107, I, J, mm_rf rv sp 19 w nw)) 2 rfl ?_
                      cases e
                      exact mm_T.ret rfl ⟨rfl, rfl⟩
                    · rw [if_neg h1524] at e
                      refine mm_T.seg (f' := (148, [some (.ref 16), some (.int x1)], [(.int 0)])) (h' := (107, I, J, mm_rf rv sp 19 w nw)) 1 rfl ?_
                      cases e
                      exact mm_T.ret rfl ⟨rfl, rfl⟩
                  · rw [if_neg h1523] at e
                    refine mm_T.tabs (lo := 0) (hi := 7) (y := ((149, [some (.ref 16), some (.int x1)], []), (107, I, J, mm_rf rv sp 19 w nw))) rfl (mm_swo (0) (7) x1 [0, 1, 2, 3, 4, 5, 6, 7] (by decide) (by intro z hz; simp only [List.mem_cons, List.not_mem_nil, or_false] at hz; rcases hz with rfl | rfl | rfl | rfl | rfl | rfl | rfl | rfl <;> first | assumption | decide)) ?_
                    refine mm_T.seg (f' := (150, [some (.ref 16), some (.int x1)], [(.int 0)])) (h' := (107, I, J, mm_rf rv sp 19 w nw)) 1 rfl ?_
                    cases e
                    exact mm_T.ret rfl ⟨rfl, rfl⟩
set_option maxRecDepth 100000 in
set_option maxHeartbeats 4000000 in
theorem tX4_readWater (d n : Nat) (I : Nat → Nat → Int32) (J : Nat → Nat → Int64) (rv sp rr w nw : Nat) (hrr : rr = 3 ∨ rr = 19) (out : Int32 × (Nat → Nat → Int32) × (Nat → Nat → Int64)) (e : fX4_readWater n I J rr = some out) : mm_T none (d + 6) 46 (mm_ent 46 [(.ref 16)]) (107, I, J, mm_rf rv sp rr w nw) (fun v h => v = some (.int out.1) ∧ h = (107, out.2.1, out.2.2, mm_rf rv sp rr w nw)) := by
  rcases hrr with rfl | rfl
  · unfold fX4_readWater at e
    refine mm_T.seg (f' := (4, [some (.ref 16), none, none], [(.int 8), (.int 1), (.ref 16)])) (h' := (107, I, J, mm_rf rv sp 3 w nw)) 3 rfl ?_
    obtain ⟨o1529, eo1529, e⟩ := mm_bind e
    refine mm_T.call (t := 43) (as := [(.ref 16), (.int 1), (.int 8)]) (f' := (7, [some (.ref 16), none, none], [])) rfl (tX4_passNumber (d + 0) n 1 8 I J rv sp 3 w nw o1529 eo1529) (fun v h hq => ?_)
    obtain ⟨rfl, rfl⟩ := hq
    refine mm_T.seg (f' := (10, [some (.ref 16), some (.int o1529.1), none], [(.int (-1)), (.int o1529.1)])) (h' := (107, o1529.2.1, o1529.2.2, mm_rf rv sp 3 w nw)) 3 rfl ?_
    refine mm_T.br (c := o1529.1 = (-1)) (a := ((22, [some (.ref 16), some (.int o1529.1), none], []), (107, o1529.2.1, o1529.2.2, mm_rf rv sp 3 w nw))) (b := ((13, [some (.ref 16), some (.int o1529.1), none], []), (107, o1529.2.1, o1529.2.2, mm_rf rv sp 3 w nw))) rfl (fun h1530 => ?_) (fun h1530 => ?_)
    · rw [if_pos h1530] at e
      refine mm_T.seg (f' := (23, [some (.ref 16), some (.int o1529.1), none], [(.int 0)])) (h' := (107, o1529.2.1, o1529.2.2, mm_rf rv sp 3 w nw)) 1 rfl ?_
      cases e
      exact mm_T.ret rfl ⟨rfl, rfl⟩
    · rw [if_neg h1530] at e
      refine mm_T.seg (f' := (16, [some (.ref 16), some (.int o1529.1), none], [(.int 8), (.ref 16)])) (h' := (107, o1529.2.1, o1529.2.2, mm_rf rv sp 3 w nw)) 2 rfl ?_
      obtain ⟨o1531, eo1531, e⟩ := mm_bind e
      refine mm_T.call (t := 40) (as := [(.ref 16), (.int 8)]) (f' := (19, [some (.ref 16), some (.int o1529.1), none], [])) rfl (tX4_passWord (d + 0) n 8 o1529.2.1 o1529.2.2 rv sp 3 w nw o1531 eo1531) (fun v h hq => ?_)
      obtain ⟨rfl, rfl⟩ := hq
      refine mm_T.br (c := o1531.1 = 0) (a := ((22, [some (.ref 16), some (.int o1529.1), none], []), (107, o1531.2.1, o1531.2.2, mm_rf rv sp 3 w nw))) (b := ((24, [some (.ref 16), some (.int o1529.1), none], []), (107, o1531.2.1, o1531.2.2, mm_rf rv sp 3 w nw))) rfl (fun h1532 => ?_) (fun h1532 => ?_)
      · rw [if_pos h1532] at e
        refine mm_T.seg (f' := (23, [some (.ref 16), some (.int o1529.1), none], [(.int 0)])) (h' := (107, o1531.2.1, o1531.2.2, mm_rf rv sp 3 w nw)) 1 rfl ?_
        cases e
        exact mm_T.ret rfl ⟨rfl, rfl⟩
      · rw [if_neg h1532] at e
        refine mm_T.seg (f' := (28, [some (.ref 16), some (.int o1529.1), none], [(.int 6), (.int 1), (.ref 16)])) (h' := (107, o1531.2.1, o1531.2.2, mm_rf rv sp 3 w nw)) 3 rfl ?_
        obtain ⟨o1533, eo1533, e⟩ := mm_bind e
        refine mm_T.call (t := 43) (as := [(.ref 16), (.int 1), (.int 6)]) (f' := (31, [some (.ref 16), some (.int o1529.1), none], [])) rfl (tX4_passNumber (d + 0) n 1 6 o1531.2.1 o1531.2.2 rv sp 3 w nw o1533 eo1533) (fun v h hq => ?_)
        obtain ⟨rfl, rfl⟩ := hq
        refine mm_T.seg (f' := (34, [some (.ref 16), some (.int o1529.1), some (.int o1533.1)], [(.int (-1)), (.int o1533.1)])) (h' := (107, o1533.2.1, o1533.2.2, mm_rf rv sp 3 w nw)) 3 rfl ?_
        refine mm_T.br (c := o1533.1 = (-1)) (a := ((37, [some (.ref 16), some (.int o1529.1), some (.int o1533.1)], []), (107, o1533.2.1, o1533.2.2, mm_rf rv sp 3 w nw))) (b := ((39, [some (.ref 16), some (.int o1529.1), some (.int o1533.1)], []), (107, o1533.2.1, o1533.2.2, mm_rf rv sp 3 w nw))) rfl (fun h1534 => ?_) (fun h1534 => ?_)
        · rw [if_pos h1534] at e
          refine mm_T.seg (f' := (38, [some (.ref 16), some (.int o1529.1), some (.int o1533.1)], [(.int 0)])) (h' := (107, o1533.2.1, o1533.2.2, mm_rf rv sp 3 w nw)) 1 rfl ?_
          cases e
          exact mm_T.ret rfl ⟨rfl, rfl⟩
        · rw [if_neg h1534] at e
          refine mm_T.seg (f' := (56, [some (.ref 16), some (.int o1529.1), some (.int o1533.1)], [(.ref 16)])) (h' := (107, (mm_up (mm_up o1533.2.1 3 0 o1529.1) 3 1 o1533.1), o1533.2.2, mm_rf rv sp 3 w nw)) 9 rfl ?_
          obtain ⟨o1535, eo1535, e⟩ := mm_bind e
          refine mm_T.call (t := 41) (as := [(.ref 16)]) (f' := (59, [some (.ref 16), some (.int o1529.1), some (.int o1533.1)], [])) rfl (tX4_passEndOfLine (d + 0) n (mm_up (mm_up o1533.2.1 3 0 o1529.1) 3 1 o1533.1) o1533.2.2 rv sp 3 w nw o1535 eo1535) (fun v h hq => ?_)
          obtain ⟨rfl, rfl⟩ := hq
          by_cases h1536 : o1535.1 = 0 ∨ o1535.1 = 1
          case neg => rw [if_neg h1536] at e; cases e
          rw [if_pos h1536] at e
          cases e
          first | exact mm_T.retZ (v := some (.int o1535.1)) rfl h1536 ⟨rfl, rfl⟩ | exact mm_T.retZ (v := some (.int out)) rfl h1536 ⟨rfl, rfl⟩
  · unfold fX4_readWater at e
    refine mm_T.seg (f' := (4, [some (.ref 16), none, none], [(.int 8), (.int 1), (.ref 16)])) (h' := (107, I, J, mm_rf rv sp 19 w nw)) 3 rfl ?_
    obtain ⟨o1529, eo1529, e⟩ := mm_bind e
    refine mm_T.call (t := 43) (as := [(.ref 16), (.int 1), (.int 8)]) (f' := (7, [some (.ref 16), none, none], [])) rfl (tX4_passNumber (d + 0) n 1 8 I J rv sp 19 w nw o1529 eo1529) (fun v h hq => ?_)
    obtain ⟨rfl, rfl⟩ := hq
    refine mm_T.seg (f' := (10, [some (.ref 16), some (.int o1529.1), none], [(.int (-1)), (.int o1529.1)])) (h' := (107, o1529.2.1, o1529.2.2, mm_rf rv sp 19 w nw)) 3 rfl ?_
    refine mm_T.br (c := o1529.1 = (-1)) (a := ((22, [some (.ref 16), some (.int o1529.1), none], []), (107, o1529.2.1, o1529.2.2, mm_rf rv sp 19 w nw))) (b := ((13, [some (.ref 16), some (.int o1529.1), none], []), (107, o1529.2.1, o1529.2.2, mm_rf rv sp 19 w nw))) rfl (fun h1530 => ?_) (fun h1530 => ?_)
    · rw [if_pos h1530] at e
      refine mm_T.seg (f' := (23, [some (.ref 16), some (.int o1529.1), none], [(.int 0)])) (h' := (107, o1529.2.1, o1529.2.2, mm_rf rv sp 19 w nw)) 1 rfl ?_
      cases e
      exact mm_T.ret rfl ⟨rfl, rfl⟩
    · rw [if_neg h1530] at e
      refine mm_T.seg (f' := (16, [some (.ref 16), some (.int o1529.1), none], [(.int 8), (.ref 16)])) (h' := (107, o1529.2.1, o1529.2.2, mm_rf rv sp 19 w nw)) 2 rfl ?_
      obtain ⟨o1531, eo1531, e⟩ := mm_bind e
      refine mm_T.call (t := 40) (as := [(.ref 16), (.int 8)]) (f' := (19, [some (.ref 16), some (.int o1529.1), none], [])) rfl (tX4_passWord (d + 0) n 8 o1529.2.1 o1529.2.2 rv sp 19 w nw o1531 eo1531) (fun v h hq => ?_)
      obtain ⟨rfl, rfl⟩ := hq
      refine mm_T.br (c := o1531.1 = 0) (a := ((22, [some (.ref 16), some (.int o1529.1), none], []), (107, o1531.2.1, o1531.2.2, mm_rf rv sp 19 w nw))) (b := ((24, [some (.ref 16), some (.int o1529.1), none], []), (107, o1531.2.1, o1531.2.2, mm_rf rv sp 19 w nw))) rfl (fun h1532 => ?_) (fun h1532 => ?_)
      · rw [if_pos h1532] at e
        refine mm_T.seg (f' := (23, [some (.ref 16), some (.int o1529.1), none], [(.int 0)])) (h' := (107, o1531.2.1, o1531.2.2, mm_rf rv sp 19 w nw)) 1 rfl ?_
        cases e
        exact mm_T.ret rfl ⟨rfl, rfl⟩
      · rw [if_neg h1532] at e
        refine mm_T.seg (f' := (28, [some (.ref 16), some (.int o1529.1), none], [(.int 6), (.int 1), (.ref 16)])) (h' := (107, o1531.2.1, o1531.2.2, mm_rf rv sp 19 w nw)) 3 rfl ?_
        obtain ⟨o1533, eo1533, e⟩ := mm_bind e
        refine mm_T.call (t := 43) (as := [(.ref 16), (.int 1), (.int 6)]) (f' := (31, [some (.ref 16), some (.int o1529.1), none], [])) rfl (tX4_passNumber (d + 0) n 1 6 o1531.2.1 o1531.2.2 rv sp 19 w nw o1533 eo1533) (fun v h hq => ?_)
        obtain ⟨rfl, rfl⟩ := hq
        refine mm_T.seg (f' := (34, [some (.ref 16), some (.int o1529.1), some (.int o1533.1)], [(.int (-1)), (.int o1533.1)])) (h' := (107, o1533.2.1, o1533.2.2, mm_rf rv sp 19 w nw)) 3 rfl ?_
        refine mm_T.br (c := o1533.1 = (-1)) (a := ((37, [some (.ref 16), some (.int o1529.1), some (.int o1533.1)], []), (107, o1533.2.1, o1533.2.2, mm_rf rv sp 19 w nw))) (b := ((39, [some (.ref 16), some (.int o1529.1), some (.int o1533.1)], []), (107, o1533.2.1, o1533.2.2, mm_rf rv sp 19 w nw))) rfl (fun h1534 => ?_) (fun h1534 => ?_)
        · rw [if_pos h1534] at e
          refine mm_T.seg (f' := (38, [some (.ref 16), some (.int o1529.1), some (.int o1533.1)], [(.int 0)])) (h' := (107, o1533.2.1, o1533.2.2, mm_rf rv sp 19 w nw)) 1 rfl ?_
          cases e
          exact mm_T.ret rfl ⟨rfl, rfl⟩
        · rw [if_neg h1534] at e
          refine mm_T.seg (f' := (56, [some (.ref 16), some (.int o1529.1), some (.int o1533.1)], [(.ref 16)])) (h' := (107, (mm_up (mm_up o1533.2.1 19 0 o1529.1) 19 1 o1533.1), o1533.2.2, mm_rf rv sp 19 w nw)) 9 rfl ?_
          obtain ⟨o1535, eo1535, e⟩ := mm_bind e
          refine mm_T.call (t := 41) (as := [(.ref 16)]) (f' := (59, [some (.ref 16), some (.int o1529.1), some (.int o1533.1)], [])) rfl (tX4_passEndOfLine (d + 0) n (mm_up (mm_up o1533.2.1 19 0 o1529.1) 19 1 o1533.1) o1533.2.2 rv sp 19 w nw o1535 eo1535) (fun v h hq => ?_)
          obtain ⟨rfl, rfl⟩ := hq
          by_cases h1536 : o1535.1 = 0 ∨ o1535.1 = 1
          case neg => rw [if_neg h1536] at e; cases e
          rw [if_pos h1536] at e
          cases e
          first | exact mm_T.retZ (v := some (.int o1535.1)) rfl h1536 ⟨rfl, rfl⟩ | exact mm_T.retZ (v := some (.int out)) rfl h1536 ⟨rfl, rfl⟩
set_option maxRecDepth 100000 in
set_option maxHeartbeats 4000000 in
theorem tX5_hasCurrent (d : Nat) (x1 : Int32) (x2 : Int32) (r : Nat) (I : Nat → Nat → Int32) (J : Nat → Nat → Int64) (rv sp rr w nw : Nat) (hr : r = 3 ∨ r = 19) (out : Int32) (e : fX5_hasCurrent x1 x2 r I = out) : mm_T none (d + 1) 67 (mm_ent 67 [(.ref r), (.int x1), (.int x2)]) (107, I, J, mm_rf rv sp rr w nw) (fun v h => v = some (.int out) ∧ h = (107, I, J, mm_rf rv sp rr w nw)) := by
  rcases hr with rfl | rfl
  · unfold fX5_hasCurrent at e
    refine mm_T.seg (f' := (3, [some (.ref 3), some (.int x1), some (.int x2)], [(.int x2), (.int x1), (.ref 3)])) (h' := (107, I, J, mm_rf rv sp rr w nw)) 3 rfl ?_
    refine mm_T.call (t := 66) (as := [(.ref 3), (.int x1), (.int x2)]) (f' := (6, [some (.ref 3), some (.int x1), some (.int x2)], [])) rfl (tX5_isCell (d + 0) x1 x2 3 I J rv sp rr w nw (Or.inl rfl) _ rfl) (fun v h hq => ?_)
    obtain ⟨rfl, rfl⟩ := hq
    refine mm_T.br (c := (fX5_isCell x1 x2 3 I) = 0) (a := ((29, [some (.ref 3), some (.int x1), some (.int x2)], []), (107, I, J, mm_rf rv sp rr w nw))) (b := ((9, [some (.ref 3), some (.int x1), some (.int x2)], []), (107, I, J, mm_rf rv sp rr w nw))) rfl (fun h1548 => ?_) (fun h1548 => ?_)
    · rw [if_pos h1548] at e
      refine mm_T.seg (f' := (30, [some (.ref 3), some (.int x1), some (.int x2)], [(.int 0)])) (h' := (107, I, J, mm_rf rv sp rr w nw)) 1 rfl ?_
      cases e
      exact mm_T.ret rfl ⟨rfl, rfl⟩
    · rw [if_neg h1548] at e
      refine mm_T.seg (f' := (15, [some (.ref 3), some (.int x1), some (.int x2)], [(.int x2), (.int x1), (.ref (3 + 5))])) (h' := (107, I, J, mm_rf rv sp rr w nw)) 4 rfl ?_
      refine mm_T.call (t := 65) (as := [(.int x1), (.int x2)]) (f' := (18, [some (.ref 3), some (.int x1), some (.int x2)], [(.ref (3 + 5))])) rfl (tX5_cell (d + 0) x1 x2 I J rv sp rr w nw _ rfl) (fun v h hq => ?_)
      obtain ⟨rfl, rfl⟩ := hq
      refine mm_T.call (t := 204) (as := [(.ref (3 + 5)), (.int (fX5_cell x1 x2))]) (f' := (21, [some (.ref 3), some (.int x1), some (.int x2)], [])) rfl (t_pick _ (3 + 5) 56 (fX5_cell x1 x2) I J (mm_rf rv sp rr w nw) rfl rfl) (fun v h hq => ?_)
      obtain ⟨rfl, rfl⟩ := hq
      refine mm_T.seg (f' := (22, [some (.ref 3), some (.int x1), some (.int x2)], [(.int (-1)), (.int (mf_pick I (3 + 5) 56 (fX5_cell x1 x2)))])) (h' := (107, I, J, mm_rf rv sp rr w nw)) 1 rfl ?_
      refine mm_T.br (c := (mf_pick I (3 + 5) 56 (fX5_cell x1 x2)) = (-1)) (a := ((29, [some (.ref 3), some (.int x1), some (.int x2)], []), (107, I, J, mm_rf rv sp rr w nw))) (b := ((25, [some (.ref 3), some (.int x1), some (.int x2)], []), (107, I, J, mm_rf rv sp rr w nw))) rfl (fun h1549 => ?_) (fun h1549 => ?_)
      · rw [if_pos h1549] at e
        refine mm_T.seg (f' := (30, [some (.ref 3), some (.int x1), some (.int x2)], [(.int 0)])) (h' := (107, I, J, mm_rf rv sp rr w nw)) 1 rfl ?_
        cases e
        exact mm_T.ret rfl ⟨rfl, rfl⟩
      · rw [if_neg h1549] at e
        refine mm_T.seg (f' := (30, [some (.ref 3), some (.int x1), some (.int x2)], [(.int 1)])) (h' := (107, I, J, mm_rf rv sp rr w nw)) 2 rfl ?_
        cases e
        exact mm_T.ret rfl ⟨rfl, rfl⟩
  · unfold fX5_hasCurrent at e
    refine mm_T.seg (f' := (3, [some (.ref 19), some (.int x1), some (.int x2)], [(.int x2), (.int x1), (.ref 19)])) (h' := (107, I, J, mm_rf rv sp rr w nw)) 3 rfl ?_
    refine mm_T.call (t := 66) (as := [(.ref 19), (.int x1), (.int x2)]) (f' := (6, [some (.ref 19), some (.int x1), some (.int x2)], [])) rfl (tX5_isCell (d + 0) x1 x2 19 I J rv sp rr w nw (Or.inr rfl) _ rfl) (fun v h hq => ?_)
    obtain ⟨rfl, rfl⟩ := hq
    refine mm_T.br (c := (fX5_isCell x1 x2 19 I) = 0) (a := ((29, [some (.ref 19), some (.int x1), some (.int x2)], []), (107, I, J, mm_rf rv sp rr w nw))) (b := ((9, [some (.ref 19), some (.int x1), some (.int x2)], []), (107, I, J, mm_rf rv sp rr w nw))) rfl (fun h1548 => ?_) (fun h1548 => ?_)
    · rw [if_pos h1548] at e
      refine mm_T.seg (f' := (30, [some (.ref 19), some (.int x1), some (.int x2)], [(.int 0)])) (h' := (107, I, J, mm_rf rv sp rr w nw)) 1 rfl ?_
      cases e
      exact mm_T.ret rfl ⟨rfl, rfl⟩
    · rw [if_neg h1548] at e
      refine mm_T.seg (f' := (15, [some (.ref 19), some (.int x1), some (.int x2)], [(.int x2), (.int x1), (.ref (19 + 5))])) (h' := (107, I, J, mm_rf rv sp rr w nw)) 4 rfl ?_
      refine mm_T.call (t := 65) (as := [(.int x1), (.int x2)]) (f' := (18, [some (.ref 19), some (.int x1), some (.int x2)], [(.ref (19 + 5))])) rfl (tX5_cell (d + 0) x1 x2 I J rv sp rr w nw _ rfl) (fun v h hq => ?_)
      obtain ⟨rfl, rfl⟩ := hq
      refine mm_T.call (t := 204) (as := [(.ref (19 + 5)), (.int (fX5_cell x1 x2))]) (f' := (21, [some (.ref 19), some (.int x1), some (.int x2)], [])) rfl (t_pick _ (19 + 5) 56 (fX5_cell x1 x2) I J (mm_rf rv sp rr w nw) rfl rfl) (fun v h hq => ?_)
      obtain ⟨rfl, rfl⟩ := hq
      refine mm_T.seg (f' := (22, [some (.ref 19), some (.int x1), some (.int x2)], [(.int (-1)), (.int (mf_pick I (19 + 5) 56 (fX5_cell x1 x2)))])) (h' := (107, I, J, mm_rf rv sp rr w nw)) 1 rfl ?_
      refine mm_T.br (c := (mf_pick I (19 + 5) 56 (fX5_cell x1 x2)) = (-1)) (a := ((29, [some (.ref 19), some (.int x1), some (.int x2)], []), (107, I, J, mm_rf rv sp rr w nw))) (b := ((25, [some (.ref 19), some (.int x1), some (.int x2)], []), (107, I, J, mm_rf rv sp rr w nw))) rfl (fun h1549 => ?_) (fun h1549 => ?_)
      · rw [if_pos h1549] at e
        refine mm_T.seg (f' := (30, [some (.ref 19), some (.int x1), some (.int x2)], [(.int 0)])) (h' := (107, I, J, mm_rf rv sp rr w nw)) 1 rfl ?_
        cases e
        exact mm_T.ret rfl ⟨rfl, rfl⟩
      · rw [if_neg h1549] at e
        refine mm_T.seg (f' := (30, [some (.ref 19), some (.int x1), some (.int x2)], [(.int 1)])) (h' := (107, I, J, mm_rf rv sp rr w nw)) 2 rfl ?_
        cases e
        exact mm_T.ret rfl ⟨rfl, rfl⟩
set_option maxRecDepth 100000 in
set_option maxHeartbeats 4000000 in
theorem tX5_addCurrent (d : Nat) (x1 : Int32) (x2 : Int32) (x3 : Int32) (r : Nat) (I : Nat → Nat → Int32) (J : Nat → Nat → Int64) (rv sp rr w nw : Nat) (hr : r = 3 ∨ r = 19) (out : (Nat → Nat → Int32)) (e : fX5_addCurrent x1 x2 x3 r I = out) : mm_T none (d + 1) 70 (mm_ent 70 [(.ref r), (.int x1), (.int x2), (.int x3)]) (107, I, J, mm_rf rv sp rr w nw) (fun v h => v = none ∧ h = (107, out, J, mm_rf rv sp rr w nw)) := by
  rcases hr with rfl | rfl
  · unfold fX5_addCurrent at e
    refine mm_T.seg (f' := (6, [some (.ref 3), some (.int x1), some (.int x2), some (.int x3)], [(.int x3), (.int x2), (.ref (3 + 5))])) (h' := (107, I, J, mm_rf rv sp rr w nw)) 4 rfl ?_
    refine mm_T.call (t := 65) (as := [(.int x2), (.int x3)]) (f' := (9, [some (.ref 3), some (.int x1), some (.int x2), some (.int x3)], [(.ref (3 + 5))])) rfl (tX5_cell (d + 0) x2 x3 I J rv sp rr w nw _ rfl) (fun v h hq => ?_)
    obtain ⟨rfl, rfl⟩ := hq
    refine mm_T.seg (f' := (10, [some (.ref 3), some (.int x1), some (.int x2), some (.int x3)], [(.int x1), (.int (fX5_cell x2 x3)), (.ref (3 + 5))])) (h' := (107, I, J, mm_rf rv sp rr w nw)) 1 rfl ?_
    refine mm_T.call (t := 205) (as := [(.ref (3 + 5)), (.int (fX5_cell x2 x3)), (.int x1)]) (f' := (13, [some (.ref 3), some (.int x1), some (.int x2), some (.int x3)], [])) rfl (t_put _ (3 + 5) 56 (fX5_cell x2 x3) x1 I J (mm_rf rv sp rr w nw) rfl rfl) (fun v h hq => ?_)
    obtain ⟨rfl, rfl⟩ := hq
    refine mm_T.seg (f' := (23, [some (.ref 3), some (.int x1), some (.int x2), some (.int x3)], [])) (h' := (107, (mm_up (mf_put I (3 + 5) 56 (fX5_cell x2 x3) x1) 3 2 (((mf_put I (3 + 5) 56 (fX5_cell x2 x3) x1) 3 2) + 1)), J, mm_rf rv sp rr w nw)) 6 rfl ?_
    cases e
    exact mm_T.ret rfl ⟨rfl, rfl⟩
  · unfold fX5_addCurrent at e
    refine mm_T.seg (f' := (6, [some (.ref 19), some (.int x1), some (.int x2), some (.int x3)], [(.int x3), (.int x2), (.ref (19 + 5))])) (h' := (107, I, J, mm_rf rv sp rr w nw)) 4 rfl ?_
    refine mm_T.call (t := 65) (as := [(.int x2), (.int x3)]) (f' := (9, [some (.ref 19), some (.int x1), some (.int x2), some (.int x3)], [(.ref (19 + 5))])) rfl (tX5_cell (d + 0) x2 x3 I J rv sp rr w nw _ rfl) (fun v h hq => ?_)
    obtain ⟨rfl, rfl⟩ := hq
    refine mm_T.seg (f' := (10, [some (.ref 19), some (.int x1), some (.int x2), some (.int x3)], [(.int x1), (.int (fX5_cell x2 x3)), (.ref (19 + 5))])) (h' := (107, I, J, mm_rf rv sp rr w nw)) 1 rfl ?_
    refine mm_T.call (t := 205) (as := [(.ref (19 + 5)), (.int (fX5_cell x2 x3)), (.int x1)]) (f' := (13, [some (.ref 19), some (.int x1), some (.int x2), some (.int x3)], [])) rfl (t_put _ (19 + 5) 56 (fX5_cell x2 x3) x1 I J (mm_rf rv sp rr w nw) rfl rfl) (fun v h hq => ?_)
    obtain ⟨rfl, rfl⟩ := hq
    refine mm_T.seg (f' := (23, [some (.ref 19), some (.int x1), some (.int x2), some (.int x3)], [])) (h' := (107, (mm_up (mf_put I (19 + 5) 56 (fX5_cell x2 x3) x1) 19 2 (((mf_put I (19 + 5) 56 (fX5_cell x2 x3) x1) 19 2) + 1)), J, mm_rf rv sp rr w nw)) 6 rfl ?_
    cases e
    exact mm_T.ret rfl ⟨rfl, rfl⟩
set_option maxRecDepth 100000 in
set_option maxHeartbeats 4000000 in
theorem tX4_readCurrent (d n : Nat) (I : Nat → Nat → Int32) (J : Nat → Nat → Int64) (rv sp rr w nw : Nat) (hrr : rr = 3 ∨ rr = 19) (out : Int32 × (Nat → Nat → Int32) × (Nat → Nat → Int64)) (e : fX4_readCurrent n I J rr = some out) : mm_T none (d + 6) 47 (mm_ent 47 [(.ref 16)]) (107, I, J, mm_rf rv sp rr w nw) (fun v h => v = some (.int out.1) ∧ h = (107, out.2.1, out.2.2, mm_rf rv sp rr w nw)) := by
  rcases hrr with rfl | rfl
  · unfold fX4_readCurrent at e
    refine mm_T.seg (f' := (4, [some (.ref 16), none, none], [(.int 7), (.int 0), (.ref 16)])) (h' := (107, I, J, mm_rf rv sp 3 w nw)) 3 rfl ?_
    obtain ⟨o1540, eo1540, e⟩ := mm_bind e
    refine mm_T.call (t := 43) (as := [(.ref 16), (.int 0), (.int 7)]) (f' := (7, [some (.ref 16), none, none], [])) rfl (tX4_passNumber (d + 0) n 0 7 I J rv sp 3 w nw o1540 eo1540) (fun v h hq => ?_)
    obtain ⟨rfl, rfl⟩ := hq
    refine mm_T.seg (f' := (10, [some (.ref 16), some (.int o1540.1), none], [(.int (-1)), (.int o1540.1)])) (h' := (107, o1540.2.1, o1540.2.2, mm_rf rv sp 3 w nw)) 3 rfl ?_
    refine mm_T.br (c := o1540.1 = (-1)) (a := ((22, [some (.ref 16), some (.int o1540.1), none], []), (107, o1540.2.1, o1540.2.2, mm_rf rv sp 3 w nw))) (b := ((13, [some (.ref 16), some (.int o1540.1), none], []), (107, o1540.2.1, o1540.2.2, mm_rf rv sp 3 w nw))) rfl (fun h1541 => ?_) (fun h1541 => ?_)
    · rw [if_pos h1541] at e
      refine mm_T.seg (f' := (23, [some (.ref 16), some (.int o1540.1), none], [(.int 0)])) (h' := (107, o1540.2.1, o1540.2.2, mm_rf rv sp 3 w nw)) 1 rfl ?_
      cases e
      exact mm_T.ret rfl ⟨rfl, rfl⟩
    · rw [if_neg h1541] at e
      refine mm_T.seg (f' := (16, [some (.ref 16), some (.int o1540.1), none], [(.int 9), (.ref 16)])) (h' := (107, o1540.2.1, o1540.2.2, mm_rf rv sp 3 w nw)) 2 rfl ?_
      obtain ⟨o1542, eo1542, e⟩ := mm_bind e
      refine mm_T.call (t := 40) (as := [(.ref 16), (.int 9)]) (f' := (19, [some (.ref 16), some (.int o1540.1), none], [])) rfl (tX4_passWord (d + 0) n 9 o1540.2.1 o1540.2.2 rv sp 3 w nw o1542 eo1542) (fun v h hq => ?_)
      obtain ⟨rfl, rfl⟩ := hq
      refine mm_T.br (c := o1542.1 = 0) (a := ((22, [some (.ref 16), some (.int o1540.1), none], []), (107, o1542.2.1, o1542.2.2, mm_rf rv sp 3 w nw))) (b := ((24, [some (.ref 16), some (.int o1540.1), none], []), (107, o1542.2.1, o1542.2.2, mm_rf rv sp 3 w nw))) rfl (fun h1543 => ?_) (fun h1543 => ?_)
      · rw [if_pos h1543] at e
        refine mm_T.seg (f' := (23, [some (.ref 16), some (.int o1540.1), none], [(.int 0)])) (h' := (107, o1542.2.1, o1542.2.2, mm_rf rv sp 3 w nw)) 1 rfl ?_
        cases e
        exact mm_T.ret rfl ⟨rfl, rfl⟩
      · rw [if_neg h1543] at e
        refine mm_T.seg (f' := (35, [some (.ref 16), some (.int o1540.1), none], [(.int ((o1542.2.1 3 0) - 1)), (.int 0), (.ref 16)])) (h' := (107, o1542.2.1, o1542.2.2, mm_rf rv sp 3 w nw)) 7 rfl ?_
        obtain ⟨o1544, eo1544, e⟩ := mm_bind e
        refine mm_T.call (t := 43) (as := [(.ref 16), (.int 0), (.int ((o1542.2.1 3 0) - 1))]) (f' := (38, [some (.ref 16), some (.int o1540.1), none], [])) rfl (tX4_passNumber (d + 0) n 0 ((o1542.2.1 3 0) - 1) o1542.2.1 o1542.2.2 rv sp 3 w nw o1544 eo1544) (fun v h hq => ?_)
        obtain ⟨rfl, rfl⟩ := hq
        refine mm_T.seg (f' := (41, [some (.ref 16), some (.int o1540.1), some (.int o1544.1)], [(.int (-1)), (.int o1544.1)])) (h' := (107, o1544.2.1, o1544.2.2, mm_rf rv sp 3 w nw)) 3 rfl ?_
        refine mm_T.br (c := o1544.1 = (-1)) (a := ((61, [some (.ref 16), some (.int o1540.1), some (.int o1544.1)], []), (107, o1544.2.1, o1544.2.2, mm_rf rv sp 3 w nw))) (b := ((44, [some (.ref 16), some (.int o1540.1), some (.int o1544.1)], []), (107, o1544.2.1, o1544.2.2, mm_rf rv sp 3 w nw))) rfl (fun h1545 => ?_) (fun h1545 => ?_)
        · rw [if_pos h1545] at e
          refine mm_T.seg (f' := (62, [some (.ref 16), some (.int o1540.1), some (.int o1544.1)], [(.int 0)])) (h' := (107, o1544.2.1, o1544.2.2, mm_rf rv sp 3 w nw)) 1 rfl ?_
          cases e
          exact mm_T.ret rfl ⟨rfl, rfl⟩
        · rw [if_neg h1545] at e
          refine mm_T.seg (f' := (55, [some (.ref 16), some (.int o1540.1), some (.int o1544.1)], [(.int ((o1544.2.1 3 1) - 1)), (.int 0), (.ref 16)])) (h' := (107, o1544.2.1, o1544.2.2, mm_rf rv sp 3 w nw)) 7 rfl ?_
          obtain ⟨o1546, eo1546, e⟩ := mm_bind e
          refine mm_T.call (t := 42) (as := [(.ref 16), (.int 0), (.int ((o1544.2.1 3 1) - 1))]) (f' := (58, [some (.ref 16), some (.int o1540.1), some (.int o1544.1)], [])) rfl (tX4_isNumber (d + 4) 0 ((o1544.2.1 3 1) - 1) o1544.2.1 o1544.2.2 rv sp 3 w nw o1546 eo1546) (fun v h hq => ?_)
          obtain ⟨rfl, rfl⟩ := hq
          refine mm_T.br (c := o1546.1 = 0) (a := ((61, [some (.ref 16), some (.int o1540.1), some (.int o1544.1)], []), (107, o1546.2, o1544.2.2, mm_rf rv sp 3 w nw))) (b := ((63, [some (.ref 16), some (.int o1540.1), some (.int o1544.1)], []), (107, o1546.2, o1544.2.2, mm_rf rv sp 3 w nw))) rfl (fun h1547 => ?_) (fun h1547 => ?_)
          · rw [if_pos h1547] at e
            refine mm_T.seg (f' := (62, [some (.ref 16), some (.int o1540.1), some (.int o1544.1)], [(.int 0)])) (h' := (107, o1546.2, o1544.2.2, mm_rf rv sp 3 w nw)) 1 rfl ?_
            cases e
            exact mm_T.ret rfl ⟨rfl, rfl⟩
          · rw [if_neg h1547] at e
            refine mm_T.seg (f' := (72, [some (.ref 16), some (.int o1540.1), some (.int o1544.1)], [(.int (o1546.2 16 6)), (.int o1544.1), (.ref 3)])) (h' := (107, o1546.2, o1544.2.2, mm_rf rv sp 3 w nw)) 5 rfl ?_
            refine mm_T.call (t := 67) (as := [(.ref 3), (.int o1544.1), (.int (o1546.2 16 6))]) (f' := (75, [some (.ref 16), some (.int o1540.1), some (.int o1544.1)], [])) rfl (tX5_hasCurrent (d + 4) o1544.1 (o1546.2 16 6) 3 o1546.2 o1544.2.2 rv sp 3 w nw (Or.inl rfl) _ rfl) (fun v h hq => ?_)
            obtain ⟨rfl, rfl⟩ := hq
            refine mm_T.br (c := (fX5_hasCurrent o1544.1 (o1546.2 16 6) 3 o1546.2) = 0) (a := ((84, [some (.ref 16), some (.int o1540.1), some (.int o1544.1)], []), (107, o1546.2, o1544.2.2, mm_rf rv sp 3 w nw))) (b := ((78, [some (.ref 16), some (.int o1540.1), some (.int o1544.1)], []), (107, o1546.2, o1544.2.2, mm_rf rv sp 3 w nw))) rfl (fun h1550 => ?_) (fun h1550 => ?_)
            · rw [if_pos h1550] at e
              refine mm_T.seg (f' := (94, [some (.ref 16), some (.int o1540.1), some (.int o1544.1)], [(.int (o1546.2 16 6)), (.int o1544.1), (.int o1540.1), (.ref 3)])) (h' := (107, o1546.2, o1544.2.2, mm_rf rv sp 3 w nw)) 6 rfl ?_
              refine mm_T.call (t := 70) (as := [(.ref 3), (.int o1540.1), (.int o1544.1), (.int (o1546.2 16 6))]) (f' := (97, [some (.ref 16), some (.int o1540.1), some (.int o1544.1)], [])) rfl (tX5_addCurrent (d + 4) o1540.1 o1544.1 (o1546.2 16 6) 3 o1546.2 o1544.2.2 rv sp 3 w nw (Or.inl rfl) _ rfl) (fun v h hq => ?_)
              obtain ⟨rfl, rfl⟩ := hq
              refine mm_T.seg (f' := (98, [some (.ref 16), some (.int o1540.1), some (.int o1544.1)], [(.ref 16)])) (h' := (107, (fX5_addCurrent o1540.1 o1544.1 (o1546.2 16 6) 3 o1546.2), o1544.2.2, mm_rf rv sp 3 w nw)) 1 rfl ?_
              obtain ⟨o1551, eo1551, e⟩ := mm_bind e
              refine mm_T.call (t := 34) (as := [(.ref 16)]) (f' := (101, [some (.ref 16), some (.int o1540.1), some (.int o1544.1)], [])) rfl (tX4_advance (d + 1) n (fX5_addCurrent o1540.1 o1544.1 (o1546.2 16 6) 3 o1546.2) o1544.2.2 rv sp 3 w nw o1551 eo1551) (fun v h hq => ?_)
              obtain ⟨rfl, rfl⟩ := hq
              refine mm_T.seg (f' := (102, [some (.ref 16), some (.int o1540.1), some (.int o1544.1)], [(.ref 16)])) (h' := (107, o1551.1, o1551.2, mm_rf rv sp 3 w nw)) 1 rfl ?_
              obtain ⟨o1552, eo1552, e⟩ := mm_bind e
              refine mm_T.call (t := 41) (as := [(.ref 16)]) (f' := (105, [some (.ref 16), some (.int o1540.1), some (.int o1544.1)], [])) rfl (tX4_passEndOfLine (d + 0) n o1551.1 o1551.2 rv sp 3 w nw o1552 eo1552) (fun v h hq => ?_)
              obtain ⟨rfl, rfl⟩ := hq
              by_cases h1553 : o1552.1 = 0 ∨ o1552.1 = 1
              case neg => rw [if_neg h1553] at e; cases e
              rw [if_pos h1553] at e
              cases e
              first | exact mm_T.retZ (v := some (.int o1552.1)) rfl h1553 ⟨rfl, rfl⟩ | exact mm_T.retZ (v := some (.int out)) rfl h1553 ⟨rfl, rfl⟩
            · rw [if_neg h1550] at e
              refine mm_T.seg (f' := (80, [some (.ref 16), some (.int o1540.1), some (.int o1544.1)], [(.int 3), (.ref 16)])) (h' := (107, o1546.2, o1544.2.2, mm_rf rv sp 3 w nw)) 2 rfl ?_
              refine mm_T.call (t := 30) (as := [(.ref 16), (.int 3)]) (f' := (83, [some (.ref 16), some (.int o1540.1), some (.int o1544.1)], [])) rfl (tX4_refuse (d + 5) 3 o1546.2 o1544.2.2 rv sp 3 w nw _ rfl) (fun v h hq => ?_)
              obtain ⟨rfl, rfl⟩ := hq
              by_cases h1554 : (fX4_refuse 3 o1546.2).1 = 0 ∨ (fX4_refuse 3 o1546.2).1 = 1
              case neg => rw [if_neg h1554] at e; cases e
              rw [if_pos h1554] at e
              cases e
              first | exact mm_T.retZ (v := some (.int (fX4_refuse 3 o1546.2).1)) rfl h1554 ⟨rfl, rfl⟩ | exact mm_T.retZ (v := some (.int out)) rfl h1554 ⟨rfl, rfl⟩
  · unfold fX4_readCurrent at e
    refine mm_T.seg (f' := (4, [some (.ref 16), none, none], [(.int 7), (.int 0), (.ref 16)])) (h' := (107, I, J, mm_rf rv sp 19 w nw)) 3 rfl ?_
    obtain ⟨o1540, eo1540, e⟩ := mm_bind e
    refine mm_T.call (t := 43) (as := [(.ref 16), (.int 0), (.int 7)]) (f' := (7, [some (.ref 16), none, none], [])) rfl (tX4_passNumber (d + 0) n 0 7 I J rv sp 19 w nw o1540 eo1540) (fun v h hq => ?_)
    obtain ⟨rfl, rfl⟩ := hq
    refine mm_T.seg (f' := (10, [some (.ref 16), some (.int o1540.1), none], [(.int (-1)), (.int o1540.1)])) (h' := (107, o1540.2.1, o1540.2.2, mm_rf rv sp 19 w nw)) 3 rfl ?_
    refine mm_T.br (c := o1540.1 = (-1)) (a := ((22, [some (.ref 16), some (.int o1540.1), none], []), (107, o1540.2.1, o1540.2.2, mm_rf rv sp 19 w nw))) (b := ((13, [some (.ref 16), some (.int o1540.1), none], []), (107, o1540.2.1, o1540.2.2, mm_rf rv sp 19 w nw))) rfl (fun h1541 => ?_) (fun h1541 => ?_)
    · rw [if_pos h1541] at e
      refine mm_T.seg (f' := (23, [some (.ref 16), some (.int o1540.1), none], [(.int 0)])) (h' := (107, o1540.2.1, o1540.2.2, mm_rf rv sp 19 w nw)) 1 rfl ?_
      cases e
      exact mm_T.ret rfl ⟨rfl, rfl⟩
    · rw [if_neg h1541] at e
      refine mm_T.seg (f' := (16, [some (.ref 16), some (.int o1540.1), none], [(.int 9), (.ref 16)])) (h' := (107, o1540.2.1, o1540.2.2, mm_rf rv sp 19 w nw)) 2 rfl ?_
      obtain ⟨o1542, eo1542, e⟩ := mm_bind e
      refine mm_T.call (t := 40) (as := [(.ref 16), (.int 9)]) (f' := (19, [some (.ref 16), some (.int o1540.1), none], [])) rfl (tX4_passWord (d + 0) n 9 o1540.2.1 o1540.2.2 rv sp 19 w nw o1542 eo1542) (fun v h hq => ?_)
      obtain ⟨rfl, rfl⟩ := hq
      refine mm_T.br (c := o1542.1 = 0) (a := ((22, [some (.ref 16), some (.int o1540.1), none], []), (107, o1542.2.1, o1542.2.2, mm_rf rv sp 19 w nw))) (b := ((24, [some (.ref 16), some (.int o1540.1), none], []), (107, o1542.2.1, o1542.2.2, mm_rf rv sp 19 w nw))) rfl (fun h1543 => ?_) (fun h1543 => ?_)
      · rw [if_pos h1543] at e
        refine mm_T.seg (f' := (23, [some (.ref 16), some (.int o1540.1), none], [(.int 0)])) (h' := (107, o1542.2.1, o1542.2.2, mm_rf rv sp 19 w nw)) 1 rfl ?_
        cases e
        exact mm_T.ret rfl ⟨rfl, rfl⟩
      · rw [if_neg h1543] at e
        refine mm_T.seg (f' := (35, [some (.ref 16), some (.int o1540.1), none], [(.int ((o1542.2.1 19 0) - 1)), (.int 0), (.ref 16)])) (h' := (107, o1542.2.1, o1542.2.2, mm_rf rv sp 19 w nw)) 7 rfl ?_
        obtain ⟨o1544, eo1544, e⟩ := mm_bind e
        refine mm_T.call (t := 43) (as := [(.ref 16), (.int 0), (.int ((o1542.2.1 19 0) - 1))]) (f' := (38, [some (.ref 16), some (.int o1540.1), none], [])) rfl (tX4_passNumber (d + 0) n 0 ((o1542.2.1 19 0) - 1) o1542.2.1 o1542.2.2 rv sp 19 w nw o1544 eo1544) (fun v h hq => ?_)
        obtain ⟨rfl, rfl⟩ := hq
        refine mm_T.seg (f' := (41, [some (.ref 16), some (.int o1540.1), some (.int o1544.1)], [(.int (-1)), (.int o1544.1)])) (h' := (107, o1544.2.1, o1544.2.2, mm_rf rv sp 19 w nw)) 3 rfl ?_
        refine mm_T.br (c := o1544.1 = (-1)) (a := ((61, [some (.ref 16), some (.int o1540.1), some (.int o1544.1)], []), (107, o1544.2.1, o1544.2.2, mm_rf rv sp 19 w nw))) (b := ((44, [some (.ref 16), some (.int o1540.1), some (.int o1544.1)], []), (107, o1544.2.1, o1544.2.2, mm_rf rv sp 19 w nw))) rfl (fun h1545 => ?_) (fun h1545 => ?_)
        · rw [if_pos h1545] at e
          refine mm_T.seg (f' := (62, [some (.ref 16), some (.int o1540.1), some (.int o1544.1)], [(.int 0)])) (h' := (107, o1544.2.1, o1544.2.2, mm_rf rv sp 19 w nw)) 1 rfl ?_
          cases e
          exact mm_T.ret rfl ⟨rfl, rfl⟩
        · rw [if_neg h1545] at e
          refine mm_T.seg (f' := (55, [some (.ref 16), some (.int o1540.1), some (.int o1544.1)], [(.int ((o1544.2.1 19 1) - 1)), (.int 0), (.ref 16)])) (h' := (107, o1544.2.1, o1544.2.2, mm_rf rv sp 19 w nw)) 7 rfl ?_
          obtain ⟨o1546, eo1546, e⟩ := mm_bind e
          refine mm_T.call (t := 42) (as := [(.ref 16), (.int 0), (.int ((o1544.2.1 19 1) - 1))]) (f' := (58, [some (.ref 16), some (.int o1540.1), some (.int o1544.1)], [])) rfl (tX4_isNumber (d + 4) 0 ((o1544.2.1 19 1) - 1) o1544.2.1 o1544.2.2 rv sp 19 w nw o1546 eo1546) (fun v h hq => ?_)
          obtain ⟨rfl, rfl⟩ := hq
          refine mm_T.br (c := o1546.1 = 0) (a := ((61, [some (.ref 16), some (.int o1540.1), some (.int o1544.1)], []), (107, o1546.2, o1544.2.2, mm_rf rv sp 19 w nw))) (b := ((63, [some (.ref 16), some (.int o1540.1), some (.int o1544.1)], []), (107, o1546.2, o1544.2.2, mm_rf rv sp 19 w nw))) rfl (fun h1547 => ?_) (fun h1547 => ?_)
          · rw [if_pos h1547] at e
            refine mm_T.seg (f' := (62, [some (.ref 16), some (.int o1540.1), some (.int o1544.1)], [(.int 0)])) (h' := (107, o1546.2, o1544.2.2, mm_rf rv sp 19 w nw)) 1 rfl ?_
            cases e
            exact mm_T.ret rfl ⟨rfl, rfl⟩
          · rw [if_neg h1547] at e
            refine mm_T.seg (f' := (72, [some (.ref 16), some (.int o1540.1), some (.int o1544.1)], [(.int (o1546.2 16 6)), (.int o1544.1), (.ref 19)])) (h' := (107, o1546.2, o1544.2.2, mm_rf rv sp 19 w nw)) 5 rfl ?_
            refine mm_T.call (t := 67) (as := [(.ref 19), (.int o1544.1), (.int (o1546.2 16 6))]) (f' := (75, [some (.ref 16), some (.int o1540.1), some (.int o1544.1)], [])) rfl (tX5_hasCurrent (d + 4) o1544.1 (o1546.2 16 6) 19 o1546.2 o1544.2.2 rv sp 19 w nw (Or.inr rfl) _ rfl) (fun v h hq => ?_)
            obtain ⟨rfl, rfl⟩ := hq
            refine mm_T.br (c := (fX5_hasCurrent o1544.1 (o1546.2 16 6) 19 o1546.2) = 0) (a := ((84, [some (.ref 16), some (.int o1540.1), some (.int o1544.1)], []), (107, o1546.2, o1544.2.2, mm_rf rv sp 19 w nw))) (b := ((78, [some (.ref 16), some (.int o1540.1), some (.int o1544.1)], []), (107, o1546.2, o1544.2.2, mm_rf rv sp 19 w nw))) rfl (fun h1550 => ?_) (fun h1550 => ?_)
            · rw [if_pos h1550] at e
              refine mm_T.seg (f' := (94, [some (.ref 16), some (.int o1540.1), some (.int o1544.1)], [(.int (o1546.2 16 6)), (.int o1544.1), (.int o1540.1), (.ref 19)])) (h' := (107, o1546.2, o1544.2.2, mm_rf rv sp 19 w nw)) 6 rfl ?_
              refine mm_T.call (t := 70) (as := [(.ref 19), (.int o1540.1), (.int o1544.1), (.int (o1546.2 16 6))]) (f' := (97, [some (.ref 16), some (.int o1540.1), some (.int o1544.1)], [])) rfl (tX5_addCurrent (d + 4) o1540.1 o1544.1 (o1546.2 16 6) 19 o1546.2 o1544.2.2 rv sp 19 w nw (Or.inr rfl) _ rfl) (fun v h hq => ?_)
              obtain ⟨rfl, rfl⟩ := hq
              refine mm_T.seg (f' := (98, [some (.ref 16), some (.int o1540.1), some (.int o1544.1)], [(.ref 16)])) (h' := (107, (fX5_addCurrent o1540.1 o1544.1 (o1546.2 16 6) 19 o1546.2), o1544.2.2, mm_rf rv sp 19 w nw)) 1 rfl ?_
              obtain ⟨o1551, eo1551, e⟩ := mm_bind e
              refine mm_T.call (t := 34) (as := [(.ref 16)]) (f' := (101, [some (.ref 16), some (.int o1540.1), some (.int o1544.1)], [])) rfl (tX4_advance (d + 1) n (fX5_addCurrent o1540.1 o1544.1 (o1546.2 16 6) 19 o1546.2) o1544.2.2 rv sp 19 w nw o1551 eo1551) (fun v h hq => ?_)
              obtain ⟨rfl, rfl⟩ := hq
              refine mm_T.seg (f' := (102, [some (.ref 16), some (.int o1540.1), some (.int o1544.1)], [(.ref 16)])) (h' := (107, o1551.1, o1551.2, mm_rf rv sp 19 w nw)) 1 rfl ?_
              obtain ⟨o1552, eo1552, e⟩ := mm_bind e
              refine mm_T.call (t := 41) (as := [(.ref 16)]) (f' := (105, [some (.ref 16), some (.int o1540.1), some (.int o1544.1)], [])) rfl (tX4_passEndOfLine (d + 0) n o1551.1 o1551.2 rv sp 19 w nw o1552 eo1552) (fun v h hq => ?_)
              obtain ⟨rfl, rfl⟩ := hq
              by_cases h1553 : o1552.1 = 0 ∨ o1552.1 = 1
              case neg => rw [if_neg h1553] at e; cases e
              rw [if_pos h1553] at e
              cases e
              first | exact mm_T.retZ (v := some (.int o1552.1)) rfl h1553 ⟨rfl, rfl⟩ | exact mm_T.retZ (v := some (.int out)) rfl h1553 ⟨rfl, rfl⟩
            · rw [if_neg h1550] at e
              refine mm_T.seg (f' := (80, [some (.ref 16), some (.int o1540.1), some (.int o1544.1)], [(.int 3), (.ref 16)])) (h' := (107, o1546.2, o1544.2.2, mm_rf rv sp 19 w nw)) 2 rfl ?_
              refine mm_T.call (t := 30) (as := [(.ref 16), (.int 3)]) (f' := (83, [some (.ref 16), some (.int o1540.1), some (.int o1544.1)], [])) rfl (tX4_refuse (d + 5) 3 o1546.2 o1544.2.2 rv sp 19 w nw _ rfl) (fun v h hq => ?_)
              obtain ⟨rfl, rfl⟩ := hq
              by_cases h1554 : (fX4_refuse 3 o1546.2).1 = 0 ∨ (fX4_refuse 3 o1546.2).1 = 1
              case neg => rw [if_neg h1554] at e; cases e
              rw [if_pos h1554] at e
              cases e
              first | exact mm_T.retZ (v := some (.int (fX4_refuse 3 o1546.2).1)) rfl h1554 ⟨rfl, rfl⟩ | exact mm_T.retZ (v := some (.int out)) rfl h1554 ⟨rfl, rfl⟩
set_option maxRecDepth 100000 in
set_option maxHeartbeats 4000000 in
theorem tX5_addIron (d : Nat) (x1 : Int32) (x2 : Int32) (r : Nat) (I : Nat → Nat → Int32) (J : Nat → Nat → Int64) (rv sp rr w nw : Nat) (hr : r = 3 ∨ r = 19) (out : (Nat → Nat → Int32)) (e : fX5_addIron x1 x2 r I = out) : mm_T none (d + 1) 71 (mm_ent 71 [(.ref r), (.int x1), (.int x2)]) (107, I, J, mm_rf rv sp rr w nw) (fun v h => v = none ∧ h = (107, out, J, mm_rf rv sp rr w nw)) := by
  rcases hr with rfl | rfl
  · unfold fX5_addIron at e
    refine mm_T.seg (f' := (6, [some (.ref 3), some (.int x1), some (.int x2)], [(.int x2), (.int x1), (.ref (3 + 6))])) (h' := (107, I, J, mm_rf rv sp rr w nw)) 4 rfl ?_
    refine mm_T.call (t := 65) (as := [(.int x1), (.int x2)]) (f' := (9, [some (.ref 3), some (.int x1), some (.int x2)], [(.ref (3 + 6))])) rfl (tX5_cell (d + 0) x1 x2 I J rv sp rr w nw _ rfl) (fun v h hq => ?_)
    obtain ⟨rfl, rfl⟩ := hq
    refine mm_T.seg (f' := (10, [some (.ref 3), some (.int x1), some (.int x2)], [(.int 1), (.int (fX5_cell x1 x2)), (.ref (3 + 6))])) (h' := (107, I, J, mm_rf rv sp rr w nw)) 1 rfl ?_
    refine mm_T.call (t := 205) (as := [(.ref (3 + 6)), (.int (fX5_cell x1 x2)), (.int 1)]) (f' := (13, [some (.ref 3), some (.int x1), some (.int x2)], [])) rfl (t_put _ (3 + 6) 56 (fX5_cell x1 x2) 1 I J (mm_rf rv sp rr w nw) rfl rfl) (fun v h hq => ?_)
    obtain ⟨rfl, rfl⟩ := hq
    refine mm_T.seg (f' := (23, [some (.ref 3), some (.int x1), some (.int x2)], [])) (h' := (107, (mm_up (mf_put I (3 + 6) 56 (fX5_cell x1 x2) 1) 3 3 (((mf_put I (3 + 6) 56 (fX5_cell x1 x2) 1) 3 3) + 1)), J, mm_rf rv sp rr w nw)) 6 rfl ?_
    cases e
    exact mm_T.ret rfl ⟨rfl, rfl⟩
  · unfold fX5_addIron at e
    refine mm_T.seg (f' := (6, [some (.ref 19), some (.int x1), some (.int x2)], [(.int x2), (.int x1), (.ref (19 + 6))])) (h' := (107, I, J, mm_rf rv sp rr w nw)) 4 rfl ?_
    refine mm_T.call (t := 65) (as := [(.int x1), (.int x2)]) (f' := (9, [some (.ref 19), some (.int x1), some (.int x2)], [(.ref (19 + 6))])) rfl (tX5_cell (d + 0) x1 x2 I J rv sp rr w nw _ rfl) (fun v h hq => ?_)
    obtain ⟨rfl, rfl⟩ := hq
    refine mm_T.seg (f' := (10, [some (.ref 19), some (.int x1), some (.int x2)], [(.int 1), (.int (fX5_cell x1 x2)), (.ref (19 + 6))])) (h' := (107, I, J, mm_rf rv sp rr w nw)) 1 rfl ?_
    refine mm_T.call (t := 205) (as := [(.ref (19 + 6)), (.int (fX5_cell x1 x2)), (.int 1)]) (f' := (13, [some (.ref 19), some (.int x1), some (.int x2)], [])) rfl (t_put _ (19 + 6) 56 (fX5_cell x1 x2) 1 I J (mm_rf rv sp rr w nw) rfl rfl) (fun v h hq => ?_)
    obtain ⟨rfl, rfl⟩ := hq
    refine mm_T.seg (f' := (23, [some (.ref 19), some (.int x1), some (.int x2)], [])) (h' := (107, (mm_up (mf_put I (19 + 6) 56 (fX5_cell x1 x2) 1) 19 3 (((mf_put I (19 + 6) 56 (fX5_cell x1 x2) 1) 19 3) + 1)), J, mm_rf rv sp rr w nw)) 6 rfl ?_
    cases e
    exact mm_T.ret rfl ⟨rfl, rfl⟩
set_option maxRecDepth 100000 in
set_option maxHeartbeats 4000000 in
theorem tX4_readIron (d n : Nat) (I : Nat → Nat → Int32) (J : Nat → Nat → Int64) (rv sp rr w nw : Nat) (hrr : rr = 3 ∨ rr = 19) (out : Int32 × (Nat → Nat → Int32) × (Nat → Nat → Int64)) (e : fX4_readIron n I J rr = some out) : mm_T none (d + 6) 48 (mm_ent 48 [(.ref 16)]) (107, I, J, mm_rf rv sp rr w nw) (fun v h => v = some (.int out.1) ∧ h = (107, out.2.1, out.2.2, mm_rf rv sp rr w nw)) := by
  rcases hrr with rfl | rfl
  · unfold fX4_readIron at e
    refine mm_T.seg (f' := (11, [some (.ref 16), none], [(.int ((I 3 0) - 1)), (.int 0), (.ref 16)])) (h' := (107, I, J, mm_rf rv sp 3 w nw)) 7 rfl ?_
    obtain ⟨o1558, eo1558, e⟩ := mm_bind e
    refine mm_T.call (t := 43) (as := [(.ref 16), (.int 0), (.int ((I 3 0) - 1))]) (f' := (14, [some (.ref 16), none], [])) rfl (tX4_passNumber (d + 0) n 0 ((I 3 0) - 1) I J rv sp 3 w nw o1558 eo1558) (fun v h hq => ?_)
    obtain ⟨rfl, rfl⟩ := hq
    refine mm_T.seg (f' := (17, [some (.ref 16), some (.int o1558.1)], [(.int (-1)), (.int o1558.1)])) (h' := (107, o1558.2.1, o1558.2.2, mm_rf rv sp 3 w nw)) 3 rfl ?_
    refine mm_T.br (c := o1558.1 = (-1)) (a := ((37, [some (.ref 16), some (.int o1558.1)], []), (107, o1558.2.1, o1558.2.2, mm_rf rv sp 3 w nw))) (b := ((20, [some (.ref 16), some (.int o1558.1)], []), (107, o1558.2.1, o1558.2.2, mm_rf rv sp 3 w nw))) rfl (fun h1559 => ?_) (fun h1559 => ?_)
    · rw [if_pos h1559] at e
      refine mm_T.seg (f' := (38, [some (.ref 16), some (.int o1558.1)], [(.int 0)])) (h' := (107, o1558.2.1, o1558.2.2, mm_rf rv sp 3 w nw)) 1 rfl ?_
      cases e
      exact mm_T.ret rfl ⟨rfl, rfl⟩
    · rw [if_neg h1559] at e
      refine mm_T.seg (f' := (31, [some (.ref 16), some (.int o1558.1)], [(.int ((o1558.2.1 3 1) - 1)), (.int 1), (.ref 16)])) (h' := (107, o1558.2.1, o1558.2.2, mm_rf rv sp 3 w nw)) 7 rfl ?_
      obtain ⟨o1560, eo1560, e⟩ := mm_bind e
      refine mm_T.call (t := 42) (as := [(.ref 16), (.int 1), (.int ((o1558.2.1 3 1) - 1))]) (f' := (34, [some (.ref 16), some (.int o1558.1)], [])) rfl (tX4_isNumber (d + 4) 1 ((o1558.2.1 3 1) - 1) o1558.2.1 o1558.2.2 rv sp 3 w nw o1560 eo1560) (fun v h hq => ?_)
      obtain ⟨rfl, rfl⟩ := hq
      refine mm_T.br (c := o1560.1 = 0) (a := ((37, [some (.ref 16), some (.int o1558.1)], []), (107, o1560.2, o1558.2.2, mm_rf rv sp 3 w nw))) (b := ((39, [some (.ref 16), some (.int o1558.1)], []), (107, o1560.2, o1558.2.2, mm_rf rv sp 3 w nw))) rfl (fun h1561 => ?_) (fun h1561 => ?_)
      · rw [if_pos h1561] at e
        refine mm_T.seg (f' := (38, [some (.ref 16), some (.int o1558.1)], [(.int 0)])) (h' := (107, o1560.2, o1558.2.2, mm_rf rv sp 3 w nw)) 1 rfl ?_
        cases e
        exact mm_T.ret rfl ⟨rfl, rfl⟩
      · rw [if_neg h1561] at e
        refine mm_T.seg (f' := (48, [some (.ref 16), some (.int o1558.1)], [(.int (o1560.2 16 6)), (.int o1558.1), (.ref 3)])) (h' := (107, o1560.2, o1558.2.2, mm_rf rv sp 3 w nw)) 5 rfl ?_
        refine mm_T.call (t := 69) (as := [(.ref 3), (.int o1558.1), (.int (o1560.2 16 6))]) (f' := (51, [some (.ref 16), some (.int o1558.1)], [])) rfl (tX5_ironAt (d + 4) o1558.1 (o1560.2 16 6) 3 o1560.2 o1558.2.2 rv sp 3 w nw (Or.inl rfl) _ rfl) (fun v h hq => ?_)
        obtain ⟨rfl, rfl⟩ := hq
        refine mm_T.br (c := (fX5_ironAt o1558.1 (o1560.2 16 6) 3 o1560.2) = 0) (a := ((60, [some (.ref 16), some (.int o1558.1)], []), (107, o1560.2, o1558.2.2, mm_rf rv sp 3 w nw))) (b := ((54, [some (.ref 16), some (.int o1558.1)], []), (107, o1560.2, o1558.2.2, mm_rf rv sp 3 w nw))) rfl (fun h1562 => ?_) (fun h1562 => ?_)
        · rw [if_pos h1562] at e
          refine mm_T.seg (f' := (69, [some (.ref 16), some (.int o1558.1)], [(.int (o1560.2 16 6)), (.int o1558.1), (.ref 3)])) (h' := (107, o1560.2, o1558.2.2, mm_rf rv sp 3 w nw)) 5 rfl ?_
          refine mm_T.call (t := 71) (as := [(.ref 3), (.int o1558.1), (.int (o1560.2 16 6))]) (f' := (72, [some (.ref 16), some (.int o1558.1)], [])) rfl (tX5_addIron (d + 4) o1558.1 (o1560.2 16 6) 3 o1560.2 o1558.2.2 rv sp 3 w nw (Or.inl rfl) _ rfl) (fun v h hq => ?_)
          obtain ⟨rfl, rfl⟩ := hq
          refine mm_T.seg (f' := (73, [some (.ref 16), some (.int o1558.1)], [(.ref 16)])) (h' := (107, (fX5_addIron o1558.1 (o1560.2 16 6) 3 o1560.2), o1558.2.2, mm_rf rv sp 3 w nw)) 1 rfl ?_
          obtain ⟨o1563, eo1563, e⟩ := mm_bind e
          refine mm_T.call (t := 34) (as := [(.ref 16)]) (f' := (76, [some (.ref 16), some (.int o1558.1)], [])) rfl (tX4_advance (d + 1) n (fX5_addIron o1558.1 (o1560.2 16 6) 3 o1560.2) o1558.2.2 rv sp 3 w nw o1563 eo1563) (fun v h hq => ?_)
          obtain ⟨rfl, rfl⟩ := hq
          refine mm_T.seg (f' := (77, [some (.ref 16), some (.int o1558.1)], [(.ref 16)])) (h' := (107, o1563.1, o1563.2, mm_rf rv sp 3 w nw)) 1 rfl ?_
          obtain ⟨o1564, eo1564, e⟩ := mm_bind e
          refine mm_T.call (t := 41) (as := [(.ref 16)]) (f' := (80, [some (.ref 16), some (.int o1558.1)], [])) rfl (tX4_passEndOfLine (d + 0) n o1563.1 o1563.2 rv sp 3 w nw o1564 eo1564) (fun v h hq => ?_)
          obtain ⟨rfl, rfl⟩ := hq
          by_cases h1565 : o1564.1 = 0 ∨ o1564.1 = 1
          case neg => rw [if_neg h1565] at e; cases e
          rw [if_pos h1565] at e
          cases e
          first | exact mm_T.retZ (v := some (.int o1564.1)) rfl h1565 ⟨rfl, rfl⟩ | exact mm_T.retZ (v := some (.int out)) rfl h1565 ⟨rfl, rfl⟩
        · rw [if_neg h1562] at e
          refine mm_T.seg (f' := (56, [some (.ref 16), some (.int o1558.1)], [(.int 3), (.ref 16)])) (h' := (107, o1560.2, o1558.2.2, mm_rf rv sp 3 w nw)) 2 rfl ?_
          refine mm_T.call (t := 30) (as := [(.ref 16), (.int 3)]) (f' := (59, [some (.ref 16), some (.int o1558.1)], [])) rfl (tX4_refuse (d + 5) 3 o1560.2 o1558.2.2 rv sp 3 w nw _ rfl) (fun v h hq => ?_)
          obtain ⟨rfl, rfl⟩ := hq
          by_cases h1566 : (fX4_refuse 3 o1560.2).1 = 0 ∨ (fX4_refuse 3 o1560.2).1 = 1
          case neg => rw [if_neg h1566] at e; cases e
          rw [if_pos h1566] at e
          cases e
          first | exact mm_T.retZ (v := some (.int (fX4_refuse 3 o1560.2).1)) rfl h1566 ⟨rfl, rfl⟩ | exact mm_T.retZ (v := some (.int out)) rfl h1566 ⟨rfl, rfl⟩
  · unfold fX4_readIron at e
    refine mm_T.seg (f' := (11, [some (.ref 16), none], [(.int ((I 19 0) - 1)), (.int 0), (.ref 16)])) (h' := (107, I, J, mm_rf rv sp 19 w nw)) 7 rfl ?_
    obtain ⟨o1558, eo1558, e⟩ := mm_bind e
    refine mm_T.call (t := 43) (as := [(.ref 16), (.int 0), (.int ((I 19 0) - 1))]) (f' := (14, [some (.ref 16), none], [])) rfl (tX4_passNumber (d + 0) n 0 ((I 19 0) - 1) I J rv sp 19 w nw o1558 eo1558) (fun v h hq => ?_)
    obtain ⟨rfl, rfl⟩ := hq
    refine mm_T.seg (f' := (17, [some (.ref 16), some (.int o1558.1)], [(.int (-1)), (.int o1558.1)])) (h' := (107, o1558.2.1, o1558.2.2, mm_rf rv sp 19 w nw)) 3 rfl ?_
    refine mm_T.br (c := o1558.1 = (-1)) (a := ((37, [some (.ref 16), some (.int o1558.1)], []), (107, o1558.2.1, o1558.2.2, mm_rf rv sp 19 w nw))) (b := ((20, [some (.ref 16), some (.int o1558.1)], []), (107, o1558.2.1, o1558.2.2, mm_rf rv sp 19 w nw))) rfl (fun h1559 => ?_) (fun h1559 => ?_)
    · rw [if_pos h1559] at e
      refine mm_T.seg (f' := (38, [some (.ref 16), some (.int o1558.1)], [(.int 0)])) (h' := (107, o1558.2.1, o1558.2.2, mm_rf rv sp 19 w nw)) 1 rfl ?_
      cases e
      exact mm_T.ret rfl ⟨rfl, rfl⟩
    · rw [if_neg h1559] at e
      refine mm_T.seg (f' := (31, [some (.ref 16), some (.int o1558.1)], [(.int ((o1558.2.1 19 1) - 1)), (.int 1), (.ref 16)])) (h' := (107, o1558.2.1, o1558.2.2, mm_rf rv sp 19 w nw)) 7 rfl ?_
      obtain ⟨o1560, eo1560, e⟩ := mm_bind e
      refine mm_T.call (t := 42) (as := [(.ref 16), (.int 1), (.int ((o1558.2.1 19 1) - 1))]) (f' := (34, [some (.ref 16), some (.int o1558.1)], [])) rfl (tX4_isNumber (d + 4) 1 ((o1558.2.1 19 1) - 1) o1558.2.1 o1558.2.2 rv sp 19 w nw o1560 eo1560) (fun v h hq => ?_)
      obtain ⟨rfl, rfl⟩ := hq
      refine mm_T.br (c := o1560.1 = 0) (a := ((37, [some (.ref 16), some (.int o1558.1)], []), (107, o1560.2, o1558.2.2, mm_rf rv sp 19 w nw))) (b := ((39, [some (.ref 16), some (.int o1558.1)], []), (107, o1560.2, o1558.2.2, mm_rf rv sp 19 w nw))) rfl (fun h1561 => ?_) (fun h1561 => ?_)
      · rw [if_pos h1561] at e
        refine mm_T.seg (f' := (38, [some (.ref 16), some (.int o1558.1)], [(.int 0)])) (h' := (107, o1560.2, o1558.2.2, mm_rf rv sp 19 w nw)) 1 rfl ?_
        cases e
        exact mm_T.ret rfl ⟨rfl, rfl⟩
      · rw [if_neg h1561] at e
        refine mm_T.seg (f' := (48, [some (.ref 16), some (.int o1558.1)], [(.int (o1560.2 16 6)), (.int o1558.1), (.ref 19)])) (h' := (107, o1560.2, o1558.2.2, mm_rf rv sp 19 w nw)) 5 rfl ?_
        refine mm_T.call (t := 69) (as := [(.ref 19), (.int o1558.1), (.int (o1560.2 16 6))]) (f' := (51, [some (.ref 16), some (.int o1558.1)], [])) rfl (tX5_ironAt (d + 4) o1558.1 (o1560.2 16 6) 19 o1560.2 o1558.2.2 rv sp 19 w nw (Or.inr rfl) _ rfl) (fun v h hq => ?_)
        obtain ⟨rfl, rfl⟩ := hq
        refine mm_T.br (c := (fX5_ironAt o1558.1 (o1560.2 16 6) 19 o1560.2) = 0) (a := ((60, [some (.ref 16), some (.int o1558.1)], []), (107, o1560.2, o1558.2.2, mm_rf rv sp 19 w nw))) (b := ((54, [some (.ref 16), some (.int o1558.1)], []), (107, o1560.2, o1558.2.2, mm_rf rv sp 19 w nw))) rfl (fun h1562 => ?_) (fun h1562 => ?_)
        · rw [if_pos h1562] at e
          refine mm_T.seg (f' := (69, [some (.ref 16), some (.int o1558.1)], [(.int (o1560.2 16 6)), (.int o1558.1), (.ref 19)])) (h' := (107, o1560.2, o1558.2.2, mm_rf rv sp 19 w nw)) 5 rfl ?_
          refine mm_T.call (t := 71) (as := [(.ref 19), (.int o1558.1), (.int (o1560.2 16 6))]) (f' := (72, [some (.ref 16), some (.int o1558.1)], [])) rfl (tX5_addIron (d + 4) o1558.1 (o1560.2 16 6) 19 o1560.2 o1558.2.2 rv sp 19 w nw (Or.inr rfl) _ rfl) (fun v h hq => ?_)
          obtain ⟨rfl, rfl⟩ := hq
          refine mm_T.seg (f' := (73, [some (.ref 16), some (.int o1558.1)], [(.ref 16)])) (h' := (107, (fX5_addIron o1558.1 (o1560.2 16 6) 19 o1560.2), o1558.2.2, mm_rf rv sp 19 w nw)) 1 rfl ?_
          obtain ⟨o1563, eo1563, e⟩ := mm_bind e
          refine mm_T.call (t := 34) (as := [(.ref 16)]) (f' := (76, [some (.ref 16), some (.int o1558.1)], [])) rfl (tX4_advance (d + 1) n (fX5_addIron o1558.1 (o1560.2 16 6) 19 o1560.2) o1558.2.2 rv sp 19 w nw o1563 eo1563) (fun v h hq => ?_)
          obtain ⟨rfl, rfl⟩ := hq
          refine mm_T.seg (f' := (77, [some (.ref 16), some (.int o1558.1)], [(.ref 16)])) (h' := (107, o1563.1, o1563.2, mm_rf rv sp 19 w nw)) 1 rfl ?_
          obtain ⟨o1564, eo1564, e⟩ := mm_bind e
          refine mm_T.call (t := 41) (as := [(.ref 16)]) (f' := (80, [some (.ref 16), some (.int o1558.1)], [])) rfl (tX4_passEndOfLine (d + 0) n o1563.1 o1563.2 rv sp 19 w nw o1564 eo1564) (fun v h hq => ?_)
          obtain ⟨rfl, rfl⟩ := hq
          by_cases h1565 : o1564.1 = 0 ∨ o1564.1 = 1
          case neg => rw [if_neg h1565] at e; cases e
          rw [if_pos h1565] at e
          cases e
          first | exact mm_T.retZ (v := some (.int o1564.1)) rfl h1565 ⟨rfl, rfl⟩ | exact mm_T.retZ (v := some (.int out)) rfl h1565 ⟨rfl, rfl⟩
        · rw [if_neg h1562] at e
          refine mm_T.seg (f' := (56, [some (.ref 16), some (.int o1558.1)], [(.int 3), (.ref 16)])) (h' := (107, o1560.2, o1558.2.2, mm_rf rv sp 19 w nw)) 2 rfl ?_
          refine mm_T.call (t := 30) (as := [(.ref 16), (.int 3)]) (f' := (59, [some (.ref 16), some (.int o1558.1)], [])) rfl (tX4_refuse (d + 5) 3 o1560.2 o1558.2.2 rv sp 19 w nw _ rfl) (fun v h hq => ?_)
          obtain ⟨rfl, rfl⟩ := hq
          by_cases h1566 : (fX4_refuse 3 o1560.2).1 = 0 ∨ (fX4_refuse 3 o1560.2).1 = 1
          case neg => rw [if_neg h1566] at e; cases e
          rw [if_pos h1566] at e
          cases e
          first | exact mm_T.retZ (v := some (.int (fX4_refuse 3 o1560.2).1)) rfl h1566 ⟨rfl, rfl⟩ | exact mm_T.retZ (v := some (.int out)) rfl h1566 ⟨rfl, rfl⟩
set_option maxRecDepth 100000 in
set_option maxHeartbeats 4000000 in
theorem tlX5_isAmong_12_L3 (d : Nat) (Q : Option Value → mm_H → Prop) : ∀ (n : Nat) (y1 : Int32) (y2 : Int64) (y4 : Int32) (p0 : Nat) (I : Nat → Nat → Int32) (J : Nat → Nat → Int64) (rv sp rr w nw : Nat), (p0 = 3 ∨ p0 = 19) → ∀ (out : (Int32 ⊕ (Unit))), fX5_isAmong_12_L3 n y1 y2 y4 p0 J = some out → (∀ (r : Int32), out = .inl r → Q (some (.int r)) (107, I, J, mm_rf rv sp rr w nw)) → (∀ (y : Unit), out = .inr y → mm_T none (d + 0) 76 (33, [none, none, none, none, none], []) (107, I, J, mm_rf rv sp rr w nw) Q) → mm_T none (d + 0) 76 (3, [some (.ref (p0 + 12)), some (.int y1), some (.long y2), none, some (.int y4)], []) (107, I, J, mm_rf rv sp rr w nw) Q := by
  intro n
  induction n with
  | zero =>
    intro y1 y2 y4 p0 I J rv sp rr w nw hp0 out e kr ke
    rw [fX5_isAmong_12_L3] at e; cases e
  | succ n ih =>
    intro y1 y2 y4 p0 I J rv sp rr w nw hp0 out e kr ke
    rcases hp0 with rfl | rfl
    · rw [fX5_isAmong_12_L3] at e
      refine mm_T.seg (f' := (6, [some (.ref (3 + 12)), some (.int y1), some (.long y2), none, some (.int y4)], [(.int y1), (.int y4)])) (h' := (107, I, J, mm_rf rv sp rr w nw)) 2 rfl ?_
      refine mm_T.br (c := y4 < y1) (a := ((9, [some (.ref (3 + 12)), some (.int y1), some (.long y2), none, some (.int y4)], []), (107, I, J, mm_rf rv sp rr w nw))) (b := ((33, [some (.ref (3 + 12)), some (.int y1), some (.long y2), none, some (.int y4)], []), (107, I, J, mm_rf rv sp rr w nw))) rfl (fun h1577 => ?_) (fun h1577 => ?_)
      · rw [if_pos h1577] at e
        refine mm_T.seg (f' := (13, [some (.ref (3 + 12)), some (.int y1), some (.long y2), none, some (.int y4)], [(.int 7), (.int y4)])) (h' := (107, I, J, mm_rf rv sp rr w nw)) 3 rfl ?_
        refine mm_T.br (c := y4 < 7) (a := ((16, [some (.ref (3 + 12)), some (.int y1), some (.long y2), none, some (.int y4)], []), (107, I, J, mm_rf rv sp rr w nw))) (b := ((33, [some (.ref (3 + 12)), some (.int y1), some (.long y2), none, some (.int y4)], []), (107, I, J, mm_rf rv sp rr w nw))) rfl (fun h1578 => ?_) (fun h1578 => ?_)
        · rw [if_pos h1578] at e
          refine mm_T.seg (f' := (19, [some (.ref (3 + 12)), some (.int y1), some (.long y2), none, some (.int y4)], [(.int y4), (.ref (3 + 12))])) (h' := (107, I, J, mm_rf rv sp rr w nw)) 2 rfl ?_
          by_cases h1579 : y4 < 0 ∨ 7 ≤ y4.toNatClampNeg
          · rw [if_pos h1579] at e; cases e
          rw [if_neg h1579] at e
          refine mm_T.guard (y := ((20, [some (.ref (3 + 12)), some (.int y1), some (.long y2), none, some (.int y4)], [(.long (J (3 + 12) y4.toNatClampNeg))]), (107, I, J, mm_rf rv sp rr w nw))) rfl h1579 ?_
          refine mm_T.seg (f' := (22, [some (.ref (3 + 12)), some (.int y1), some (.long y2), none, some (.int y4)], [(.int (lg_cmp (J (3 + 12) y4.toNatClampNeg) y2))])) (h' := (107, I, J, mm_rf rv sp rr w nw)) 2 rfl ?_
          refine mm_T.br (c := (lg_cmp (J (3 + 12) y4.toNatClampNeg) y2) = 0) (a := ((25, [some (.ref (3 + 12)), some (.int y1), some (.long y2), none, some (.int y4)], []), (107, I, J, mm_rf rv sp rr w nw))) (b := ((27, [some (.ref (3 + 12)), some (.int y1), some (.long y2), none, some (.int y4)], []), (107, I, J, mm_rf rv sp rr w nw))) rfl (fun h1580 => ?_) (fun h1580 => ?_)
          · rw [if_pos h1580] at e
            refine mm_T.seg (f' := (26, [some (.ref (3 + 12)), some (.int y1), some (.long y2), none, some (.int y4)], [(.int 1)])) (h' := (107, I, J, mm_rf rv sp rr w nw)) 1 rfl ?_
            cases e
            exact mm_T.ret rfl (kr _ rfl)
          · rw [if_neg h1580] at e
            refine mm_T.seg (f' := (3, [some (.ref (3 + 12)), some (.int y1), some (.long y2), none, some (.int (y4 + 1))], [])) (h' := (107, I, J, mm_rf rv sp rr w nw)) 2 rfl ?_
            refine mm_T.mask [true, true, true, false, true] ?_
            exact ih y1 y2 (y4 + 1) 3 I J rv sp rr w nw (Or.inl rfl) out e kr ke
        · rw [if_neg h1578] at e
          cases e
          refine mm_T.mask [false, false, false, false, false] ?_
          exact ke _ rfl
      · rw [if_neg h1577] at e
        cases e
        refine mm_T.mask [false, false, false, false, false] ?_
        exact ke _ rfl
    · rw [fX5_isAmong_12_L3] at e
      refine mm_T.seg (f' := (6, [some (.ref (19 + 12)), some (.int y1), some (.long y2), none, some (.int y4)], [(.int y1), (.int y4)])) (h' := (107, I, J, mm_rf rv sp rr w nw)) 2 rfl ?_
      refine mm_T.br (c := y4 < y1) (a := ((9, [some (.ref (19 + 12)), some (.int y1), some (.long y2), none, some (.int y4)], []), (107, I, J, mm_rf rv sp rr w nw))) (b := ((33, [some (.ref (19 + 12)), some (.int y1), some (.long y2), none, some (.int y4)], []), (107, I, J, mm_rf rv sp rr w nw))) rfl (fun h1577 => ?_) (fun h1577 => ?_)
      · rw [if_pos h1577] at e
        refine mm_T.seg (f' := (13, [some (.ref (19 + 12)), some (.int y1), some (.long y2), none, some (.int y4)], [(.int 7), (.int y4)])) (h' := (107, I, J, mm_rf rv sp rr w nw)) 3 rfl ?_
        refine mm_T.br (c := y4 < 7) (a := ((16, [some (.ref (19 + 12)), some (.int y1), some (.long y2), none, some (.int y4)], []), (107, I, J, mm_rf rv sp rr w nw))) (b := ((33, [some (.ref (19 + 12)), some (.int y1), some (.long y2), none, some (.int y4)], []), (107, I, J, mm_rf rv sp rr w nw))) rfl (fun h1578 => ?_) (fun h1578 => ?_)
        · rw [if_pos h1578] at e
          refine mm_T.seg (f' := (19, [some (.ref (19 + 12)), some (.int y1), some (.long y2), none, some (.int y4)], [(.int y4), (.ref (19 + 12))])) (h' := (107, I, J, mm_rf rv sp rr w nw)) 2 rfl ?_
          by_cases h1579 : y4 < 0 ∨ 7 ≤ y4.toNatClampNeg
          · rw [if_pos h1579] at e; cases e
          rw [if_neg h1579] at e
          refine mm_T.guard (y := ((20, [some (.ref (19 + 12)), some (.int y1), some (.long y2), none, some (.int y4)], [(.long (J (19 + 12) y4.toNatClampNeg))]), (107, I, J, mm_rf rv sp rr w nw))) rfl h1579 ?_
          refine mm_T.seg (f' := (22, [some (.ref (19 + 12)), some (.int y1), some (.long y2), none, some (.int y4)], [(.int (lg_cmp (J (19 + 12) y4.toNatClampNeg) y2))])) (h' := (107, I, J, mm_rf rv sp rr w nw)) 2 rfl ?_
          refine mm_T.br (c := (lg_cmp (J (19 + 12) y4.toNatClampNeg) y2) = 0) (a := ((25, [some (.ref (19 + 12)), some (.int y1), some (.long y2), none, some (.int y4)], []), (107, I, J, mm_rf rv sp rr w nw))) (b := ((27, [some (.ref (19 + 12)), some (.int y1), some (.long y2), none, some (.int y4)], []), (107, I, J, mm_rf rv sp rr w nw))) rfl (fun h1580 => ?_) (fun h1580 => ?_)
          · rw [if_pos h1580] at e
            refine mm_T.seg (f' := (26, [some (.ref (19 + 12)), some (.int y1), some (.long y2), none, some (.int y4)], [(.int 1)])) (h' := (107, I, J, mm_rf rv sp rr w nw)) 1 rfl ?_
            cases e
            exact mm_T.ret rfl (kr _ rfl)
          · rw [if_neg h1580] at e
            refine mm_T.seg (f' := (3, [some (.ref (19 + 12)), some (.int y1), some (.long y2), none, some (.int (y4 + 1))], [])) (h' := (107, I, J, mm_rf rv sp rr w nw)) 2 rfl ?_
            refine mm_T.mask [true, true, true, false, true] ?_
            exact ih y1 y2 (y4 + 1) 19 I J rv sp rr w nw (Or.inr rfl) out e kr ke
        · rw [if_neg h1578] at e
          cases e
          refine mm_T.mask [false, false, false, false, false] ?_
          exact ke _ rfl
      · rw [if_neg h1577] at e
        cases e
        refine mm_T.mask [false, false, false, false, false] ?_
        exact ke _ rfl
set_option maxRecDepth 100000 in
set_option maxHeartbeats 4000000 in
theorem tX5_isAmong_12 (d n : Nat) (x1 : Int32) (x2 : Int64) (p0 : Nat) (I : Nat → Nat → Int32) (J : Nat → Nat → Int64) (rv sp rr w nw : Nat) (hp0 : p0 = 3 ∨ p0 = 19) (out : Int32) (e : fX5_isAmong_12 n x1 x2 p0 J = some out) : mm_T none (d + 0) 76 (mm_ent 76 [(.ref (p0 + 12)), (.int x1), (.long x2)]) (107, I, J, mm_rf rv sp rr w nw) (fun v h => v = some (.int out) ∧ h = (107, I, J, mm_rf rv sp rr w nw)) := by
  rcases hp0 with rfl | rfl
  · unfold fX5_isAmong_12 at e
    refine mm_T.seg (f' := (3, [some (.ref (3 + 12)), some (.int x1), some (.long x2), none, some (.int 0)], [])) (h' := (107, I, J, mm_rf rv sp rr w nw)) 2 rfl ?_
    refine mm_T.mask [true, true, true, false, true] ?_
    obtain ⟨o1581, eo1581, e⟩ := mm_bind e
    rcases o1581 with va1582 | vb1582
    · cases e
      refine tlX5_isAmong_12_L3 d _ n x1 x2 0 3 I J rv sp rr w nw (Or.inl rfl) _ eo1581 (fun z hz => ?_) (fun z hz => ?_)
      · cases hz; exact ⟨rfl, rfl⟩
      · cases hz
    · refine tlX5_isAmong_12_L3 d _ n x1 x2 0 3 I J rv sp rr w nw (Or.inl rfl) (.inr vb1582) eo1581 (fun z hz => ?_) (fun z hz => ?_)
      · cases hz
      · cases hz
        refine mm_T.seg (f' := (34, [none, none, none, none, none], [(.int 0)])) (h' := (107, I, J, mm_rf rv sp rr w nw)) 1 rfl ?_
        cases e
        exact mm_T.ret rfl ⟨rfl, rfl⟩
  · unfold fX5_isAmong_12 at e
    refine mm_T.seg (f' := (3, [some (.ref (19 + 12)), some (.int x1), some (.long x2), none, some (.int 0)], [])) (h' := (107, I, J, mm_rf rv sp rr w nw)) 2 rfl ?_
    refine mm_T.mask [true, true, true, false, true] ?_
    obtain ⟨o1581, eo1581, e⟩ := mm_bind e
    rcases o1581 with va1582 | vb1582
    · cases e
      refine tlX5_isAmong_12_L3 d _ n x1 x2 0 19 I J rv sp rr w nw (Or.inr rfl) _ eo1581 (fun z hz => ?_) (fun z hz => ?_)
      · cases hz; exact ⟨rfl, rfl⟩
      · cases hz
    · refine tlX5_isAmong_12_L3 d _ n x1 x2 0 19 I J rv sp rr w nw (Or.inr rfl) (.inr vb1582) eo1581 (fun z hz => ?_) (fun z hz => ?_)
      · cases hz
      · cases hz
        refine mm_T.seg (f' := (34, [none, none, none, none, none], [(.int 0)])) (h' := (107, I, J, mm_rf rv sp rr w nw)) 1 rfl ?_
        cases e
        exact mm_T.ret rfl ⟨rfl, rfl⟩
