set_option maxRecDepth 100000 in
set_option maxHeartbeats 4000000 in
theorem tJ9_abs (d : Nat) (x0 : Int32) (I : Nat → Nat → Int32) (J : Nat → Nat → Int64) (rv sp rr w nw : Nat) (out : Int32) (e : fJ9_abs x0 = out) : mm_T none (d + 0) 346 (mm_ent 346 [(.int x0)]) (107, I, J, mm_rf rv sp rr w nw) (fun v h => v = some (.int out) ∧ h = (107, I, J, mm_rf rv sp rr w nw)) := by
  unfold fJ9_abs at e
  refine mm_T.seg (f' := (1, [some (.int x0)], [(.int x0)])) (h' := (107, I, J, mm_rf rv sp rr w nw)) 1 rfl ?_
  refine mm_T.br (c := x0 < 0) (a := ((4, [some (.int x0)], []), (107, I, J, mm_rf rv sp rr w nw))) (b := ((9, [some (.int x0)], []), (107, I, J, mm_rf rv sp rr w nw))) rfl (fun h1363 => ?_) (fun h1363 => ?_)
  · rw [if_pos h1363] at e
    refine mm_T.seg (f' := (10, [some (.int x0)], [(.int (-x0))])) (h' := (107, I, J, mm_rf rv sp rr w nw)) 3 rfl ?_
    cases e
    exact mm_T.ret rfl ⟨rfl, rfl⟩
  · rw [if_neg h1363] at e
    refine mm_T.seg (f' := (10, [some (.int x0)], [(.int x0)])) (h' := (107, I, J, mm_rf rv sp rr w nw)) 1 rfl ?_
    cases e
    exact mm_T.ret rfl ⟨rfl, rfl⟩
set_option maxRecDepth 100000 in
set_option maxHeartbeats 4000000 in
theorem tlX1_moor_L101 (d : Nat) (Q : Option Value → mm_H → Prop) (rec : Int32 → Int32 → Int32 → Int32 → (Nat → Nat → Int32) → Nat → Option ((Nat → Nat → Int32))) (hrec : ∀ (x1 : Int32) (x2 : Int32) (x3 : Int32) (x4 : Int32) (I : Nat → Nat → Int32) (J : Nat → Nat → Int64) (rv sp rr w nw : Nat), (rv = 3 ∨ rv = 19) → ∀ (out : (Nat → Nat → Int32)), rec x1 x2 x3 x4 I rv = some out → mm_T none d 8 (mm_ent 8 [(.ref 50), (.int x1), (.int x2), (.int x3), (.int x4)]) (107, I, J, mm_rf rv sp rr w nw) (fun v h => v = none ∧ h = (107, out, J, mm_rf rv sp rr w nw))) : ∀ (n : Nat) (y1 : Int32) (y2 : Int32) (y3 : Int32) (y4 : Int32) (y6 : Int32) (y7 : Int32) (I : Nat → Nat → Int32) (J : Nat → Nat → Int64) (rv sp rr w nw : Nat), (rv = 3 ∨ rv = 19) → ∀ (out : (Nat → Nat → Int32)), fX1_moor_L101 n rec y1 y2 y3 y4 y6 y7 I rv = some out → mm_T none (d + 3) 8 (179, [some (.ref 50), some (.int y1), some (.int y2), some (.int y3), some (.int y4), none, none, none, none], []) (107, out, J, mm_rf rv sp rr w nw) Q → mm_T none (d + 3) 8 (101, [some (.ref 50), some (.int y1), some (.int y2), some (.int y3), some (.int y4), none, some (.int y6), some (.int y7), none], []) (107, I, J, mm_rf rv sp rr w nw) Q := by
  intro n
  induction n with
  | zero =>
    intro y1 y2 y3 y4 y6 y7 I J rv sp rr w nw hrv out e k
    rw [fX1_moor_L101] at e; cases e
  | succ n ih =>
    intro y1 y2 y3 y4 y6 y7 I J rv sp rr w nw hrv out e k
    rcases hrv with rfl | rfl
    · rw [fX1_moor_L101] at e
      refine mm_T.seg (f' := (107, [some (.ref 50), some (.int y1), some (.int y2), some (.int y3), some (.int y4), none, some (.int y6), some (.int y7), none], [(.ref 18), (.int y7)])) (h' := (107, I, J, mm_rf 3 sp rr w nw)) 3 rfl ?_
      refine mm_T.seg (f' := (113, [some (.ref 50), some (.int y1), some (.int y2), some (.int y3), some (.int y4), none, some (.int y6), some (.int y7), none], [(.int (I 3 0)), (.int y7)])) (h' := (107, I, J, mm_rf 3 sp rr w nw)) 2 rfl ?_
      refine mm_T.br (c := y7 < (I 3 0)) (a := ((116, [some (.ref 50), some (.int y1), some (.int y2), some (.int y3), some (.int y4), none, some (.int y6), some (.int y7), none], []), (107, I, J, mm_rf 3 sp rr w nw))) (b := ((179, [some (.ref 50), some (.int y1), some (.int y2), some (.int y3), some (.int y4), none, some (.int y6), some (.int y7), none], []), (107, I, J, mm_rf 3 sp rr w nw))) rfl (fun h1365 => ?_) (fun h1365 => ?_)
      · rw [if_pos h1365] at e
        refine mm_T.seg (f' := (123, [some (.ref 50), some (.int y1), some (.int y2), some (.int y3), some (.int y4), none, some (.int y6), some (.int y7), none], [(.int ((y6 >>> (y7 &&& 31)) &&& 1))])) (h' := (107, I, J, mm_rf 3 sp rr w nw)) 5 rfl ?_
        refine mm_T.br (c := ((y6 >>> (y7 &&& 31)) &&& 1) = 0) (a := ((173, [some (.ref 50), some (.int y1), some (.int y2), some (.int y3), some (.int y4), none, some (.int y6), some (.int y7), none], []), (107, I, J, mm_rf 3 sp rr w nw))) (b := ((126, [some (.ref 50), some (.int y1), some (.int y2), some (.int y3), some (.int y4), none, some (.int y6), some (.int y7), none], []), (107, I, J, mm_rf 3 sp rr w nw))) rfl (fun h1366 => ?_) (fun h1366 => ?_)
        · rw [if_pos h1366] at e
          refine mm_T.seg (f' := (101, [some (.ref 50), some (.int y1), some (.int y2), some (.int y3), some (.int y4), none, some (.int y6), some (.int (y7 + 1)), none], [])) (h' := (107, I, J, mm_rf 3 sp rr w nw)) 2 rfl ?_
          refine mm_T.mask [true, true, true, true, true, false, true, true, false] ?_
          exact ih y1 y2 y3 y4 y6 (y7 + 1) I J 3 sp rr w nw (Or.inl rfl) out e k
        · rw [if_neg h1366] at e
          refine mm_T.seg (f' := (130, [some (.ref 50), some (.int y1), some (.int y2), some (.int y3), some (.int y4), none, some (.int y6), some (.int y7), none], [(.ref 52)])) (h' := (107, I, J, mm_rf 3 sp rr w nw)) 2 rfl ?_
          refine mm_T.seg (f' := (133, [some (.ref 50), some (.int y1), some (.int y2), some (.int y3), some (.int y4), none, some (.int y6), some (.int y7), none], [(.int y7), (.int y1), (.ref 52)])) (h' := (107, I, J, mm_rf 3 sp rr w nw)) 2 rfl ?_
          refine mm_T.call (t := 205) (as := [(.ref 52), (.int y1), (.int y7)]) (f' := (136, [some (.ref 50), some (.int y1), some (.int y2), some (.int y3), some (.int y4), none, some (.int y6), some (.int y7), none], [])) rfl (t_put _ 52 4 y1 y7 I J (mm_rf 3 sp rr w nw) rfl rfl) (fun v h hq => ?_)
          obtain ⟨rfl, rfl⟩ := hq
          refine mm_T.seg (f' := (142, [some (.ref 50), some (.int y1), some (.int y2), some (.int y3), some (.int y4), none, some (.int y6), some (.int y7), none], [(.ref 18), (.int y7)])) (h' := (107, (mf_put I 52 4 y1 y7), J, mm_rf 3 sp rr w nw)) 3 rfl ?_
          refine mm_T.seg (f' := (143, [some (.ref 50), some (.int y1), some (.int y2), some (.int y3), some (.int y4), none, some (.int y6), some (.int y7), none], [(.int y1), (.ref 18), (.int y7)])) (h' := (107, (mf_put I 52 4 y1 y7), J, mm_rf 3 sp rr w nw)) 1 rfl ?_
          obtain ⟨g196, hg196⟩ : ∃ z, fX7_columnOf y1 (mf_put I 52 4 y1 y7) = z := ⟨_, rfl⟩
          try rw [hg196] at e
          refine mm_T.call (t := 105) (as := [(.ref 18), (.int y1)]) (f' := (146, [some (.ref 50), some (.int y1), some (.int y2), some (.int y3), some (.int y4), none, some (.int y6), some (.int y7), none], [(.int y7)])) rfl (tX7_columnOf (d + 0) y1 (mf_put I 52 4 y1 y7) J 3 sp rr w nw g196 hg196) (fun v h hq => ?_)
          obtain ⟨rfl, rfl⟩ := hq
          refine mm_T.seg (f' := (147, [some (.ref 50), some (.int y1), some (.int y2), some (.int y3), some (.int y4), none, some (.int y6), some (.int y7), none], [(.int (y7 - g196))])) (h' := (107, (mf_put I 52 4 y1 y7), J, mm_rf 3 sp rr w nw)) 1 rfl ?_
          obtain ⟨g197, hg197⟩ : ∃ z, fJ9_abs (y7 - g196) = z := ⟨_, rfl⟩
          try rw [hg197] at e
          refine mm_T.call (t := 346) (as := [(.int (y7 - g196))]) (f' := (150, [some (.ref 50), some (.int y1), some (.int y2), some (.int y3), some (.int y4), none, some (.int y6), some (.int y7), none], [])) rfl (tJ9_abs (d + 2) (y7 - g196) (mf_put I 52 4 y1 y7) J 3 sp rr w nw g197 hg197) (fun v h hq => ?_)
          obtain ⟨rfl, rfl⟩ := hq
          refine mm_T.seg (f' := (170, [some (.ref 50), some (.int y1), some (.int y2), some (.int y3), some (.int y4), none, some (.int y6), some (.int y7), some (.int g197)], [(.int (y4 + g197)), (.int (y3 + 1)), (.int (y2 ||| ((1 : Int32) <<< (y7 &&& 31)))), (.int (y1 + 1)), (.ref 50)])) (h' := (107, (mf_put I 52 4 y1 y7), J, mm_rf 3 sp rr w nw)) 16 rfl ?_
          obtain ⟨o1367, eo1367, e⟩ := mm_bind e
          refine mm_T.call (t := 8) (as := [(.ref 50), (.int (y1 + 1)), (.int (y2 ||| ((1 : Int32) <<< (y7 &&& 31)))), (.int (y3 + 1)), (.int (y4 + g197))]) (f' := (173, [some (.ref 50), some (.int y1), some (.int y2), some (.int y3), some (.int y4), none, some (.int y6), some (.int y7), some (.int g197)], [])) rfl (mm_T.deep (hrec (y1 + 1) (y2 ||| ((1 : Int32) <<< (y7 &&& 31))) (y3 + 1) (y4 + g197) (mf_put I 52 4 y1 y7) J 3 sp rr w nw (Or.inl rfl) o1367 eo1367) (by omega)) (fun v h hq => ?_)
          obtain ⟨rfl, rfl⟩ := hq
          refine mm_T.seg (f' := (101, [some (.ref 50), some (.int y1), some (.int y2), some (.int y3), some (.int y4), none, some (.int y6), some (.int (y7 + 1)), some (.int g197)], [])) (h' := (107, o1367, J, mm_rf 3 sp rr w nw)) 2 rfl ?_
          refine mm_T.mask [true, true, true, true, true, false, true, true, false] ?_
          exact ih y1 y2 y3 y4 y6 (y7 + 1) o1367 J 3 sp rr w nw (Or.inl rfl) out e k
      · rw [if_neg h1365] at e
        cases e
        refine mm_T.mask [true, true, true, true, true, false, false, false, false] ?_
        exact k
    · rw [fX1_moor_L101] at e
      refine mm_T.seg (f' := (107, [some (.ref 50), some (.int y1), some (.int y2), some (.int y3), some (.int y4), none, some (.int y6), some (.int y7), none], [(.ref 18), (.int y7)])) (h' := (107, I, J, mm_rf 19 sp rr w nw)) 3 rfl ?_
      refine mm_T.seg (f' := (113, [some (.ref 50), some (.int y1), some (.int y2), some (.int y3), some (.int y4), none, some (.int y6), some (.int y7), none], [(.int (I 19 0)), (.int y7)])) (h' := (107, I, J, mm_rf 19 sp rr w nw)) 2 rfl ?_
      refine mm_T.br (c := y7 < (I 19 0)) (a := ((116, [some (.ref 50), some (.int y1), some (.int y2), some (.int y3), some (.int y4), none, some (.int y6), some (.int y7), none], []), (107, I, J, mm_rf 19 sp rr w nw))) (b := ((179, [some (.ref 50), some (.int y1), some (.int y2), some (.int y3), some (.int y4), none, some (.int y6), some (.int y7), none], []), (107, I, J, mm_rf 19 sp rr w nw))) rfl (fun h1365 => ?_) (fun h1365 => ?_)
      · rw [if_pos h1365] at e
        refine mm_T.seg (f' := (123, [some (.ref 50), some (.int y1), some (.int y2), some (.int y3), some (.int y4), none, some (.int y6), some (.int y7), none], [(.int ((y6 >>> (y7 &&& 31)) &&& 1))])) (h' := (107, I, J, mm_rf 19 sp rr w nw)) 5 rfl ?_
        refine mm_T.br (c := ((y6 >>> (y7 &&& 31)) &&& 1) = 0) (a := ((173, [some (.ref 50), some (.int y1), some (.int y2), some (.int y3), some (.int y4), none, some (.int y6), some (.int y7), none], []), (107, I, J, mm_rf 19 sp rr w nw))) (b := ((126, [some (.ref 50), some (.int y1), some (.int y2), some (.int y3), some (.int y4), none, some (.int y6), some (.int y7), none], []), (107, I, J, mm_rf 19 sp rr w nw))) rfl (fun h1366 => ?_) (fun h1366 => ?_)
        · rw [if_pos h1366] at e
          refine mm_T.seg (f' := (101, [some (.ref 50), some (.int y1), some (.int y2), some (.int y3), some (.int y4), none, some (.int y6), some (.int (y7 + 1)), none], [])) (h' := (107, I, J, mm_rf 19 sp rr w nw)) 2 rfl ?_
          refine mm_T.mask [true, true, true, true, true, false, true, true, false] ?_
          exact ih y1 y2 y3 y4 y6 (y7 + 1) I J 19 sp rr w nw (Or.inr rfl) out e k
        · rw [if_neg h1366] at e
          refine mm_T.seg (f' := (130, [some (.ref 50), some (.int y1), some (.int y2), some (.int y3), some (.int y4), none, some (.int y6), some (.int y7), none], [(.ref 52)])) (h' := (107, I, J, mm_rf 19 sp rr w nw)) 2 rfl ?_
          refine mm_T.seg (f' := (133, [some (.ref 50), some (.int y1), some (.int y2), some (.int y3), some (.int y4), none, some (.int y6), some (.int y7), none], [(.int y7), (.int y1), (.ref 52)])) (h' := (107, I, J, mm_rf 19 sp rr w nw)) 2 rfl ?_
          refine mm_T.call (t := 205) (as := [(.ref 52), (.int y1), (.int y7)]) (f' := (136, [some (.ref 50), some (.int y1), some (.int y2), some (.int y3), some (.int y4), none, some (.int y6), some (.int y7), none], [])) rfl (t_put _ 52 4 y1 y7 I J (mm_rf 19 sp rr w nw) rfl rfl) (fun v h hq => ?_)
          obtain ⟨rfl, rfl⟩ := hq
          refine mm_T.seg (f' := (142, [some (.ref 50), some (.int y1), some (.int y2), some (.int y3), some (.int y4), none, some (.int y6), some (.int y7), none], [(.ref 18), (.int y7)])) (h' := (107, (mf_put I 52 4 y1 y7), J, mm_rf 19 sp rr w nw)) 3 rfl ?_
          refine mm_T.seg (f' := (143, [some (.ref 50), some (.int y1), some (.int y2), some (.int y3), some (.int y4), none, some (.int y6), some (.int y7), none], [(.int y1), (.ref 18), (.int y7)])) (h' := (107, (mf_put I 52 4 y1 y7), J, mm_rf 19 sp rr w nw)) 1 rfl ?_
          obtain ⟨g196, hg196⟩ : ∃ z, fX7_columnOf y1 (mf_put I 52 4 y1 y7) = z := ⟨_, rfl⟩
          try rw [hg196] at e
          refine mm_T.call (t := 105) (as := [(.ref 18), (.int y1)]) (f' := (146, [some (.ref 50), some (.int y1), some (.int y2), some (.int y3), some (.int y4), none, some (.int y6), some (.int y7), none], [(.int y7)])) rfl (tX7_columnOf (d + 0) y1 (mf_put I 52 4 y1 y7) J 19 sp rr w nw g196 hg196) (fun v h hq => ?_)
          obtain ⟨rfl, rfl⟩ := hq
          refine mm_T.seg (f' := (147, [some (.ref 50), some (.int y1), some (.int y2), some (.int y3), some (.int y4), none, some (.int y6), some (.int y7), none], [(.int (y7 - g196))])) (h' := (107, (mf_put I 52 4 y1 y7), J, mm_rf 19 sp rr w nw)) 1 rfl ?_
          obtain ⟨g197, hg197⟩ : ∃ z, fJ9_abs (y7 - g196) = z := ⟨_, rfl⟩
          try rw [hg197] at e
          refine mm_T.call (t := 346) (as := [(.int (y7 - g196))]) (f' := (150, [some (.ref 50), some (.int y1), some (.int y2), some (.int y3), some (.int y4), none, some (.int y6), some (.int y7), none], [])) rfl (tJ9_abs (d + 2) (y7 - g196) (mf_put I 52 4 y1 y7) J 19 sp rr w nw g197 hg197) (fun v h hq => ?_)
          obtain ⟨rfl, rfl⟩ := hq
          refine mm_T.seg (f' := (170, [some (.ref 50), some (.int y1), some (.int y2), some (.int y3), some (.int y4), none, some (.int y6), some (.int y7), some (.int g197)], [(.int (y4 + g197)), (.int (y3 + 1)), (.int (y2 ||| ((1 : Int32) <<< (y7 &&& 31)))), (.int (y1 + 1)), (.ref 50)])) (h' := (107, (mf_put I 52 4 y1 y7), J, mm_rf 19 sp rr w nw)) 16 rfl ?_
          obtain ⟨o1367, eo1367, e⟩ := mm_bind e
          refine mm_T.call (t := 8) (as := [(.ref 50), (.int (y1 + 1)), (.int (y2 ||| ((1 : Int32) <<< (y7 &&& 31)))), (.int (y3 + 1)), (.int (y4 + g197))]) (f' := (173, [some (.ref 50), some (.int y1), some (.int y2), some (.int y3), some (.int y4), none, some (.int y6), some (.int y7), some (.int g197)], [])) rfl (mm_T.deep (hrec (y1 + 1) (y2 ||| ((1 : Int32) <<< (y7 &&& 31))) (y3 + 1) (y4 + g197) (mf_put I 52 4 y1 y7) J 19 sp rr w nw (Or.inr rfl) o1367 eo1367) (by omega)) (fun v h hq => ?_)
          obtain ⟨rfl, rfl⟩ := hq
          refine mm_T.seg (f' := (101, [some (.ref 50), some (.int y1), some (.int y2), some (.int y3), some (.int y4), none, some (.int y6), some (.int (y7 + 1)), some (.int g197)], [])) (h' := (107, o1367, J, mm_rf 19 sp rr w nw)) 2 rfl ?_
          refine mm_T.mask [true, true, true, true, true, false, true, true, false] ?_
          exact ih y1 y2 y3 y4 y6 (y7 + 1) o1367 J 19 sp rr w nw (Or.inr rfl) out e k
      · rw [if_neg h1365] at e
        cases e
        refine mm_T.mask [true, true, true, true, true, false, false, false, false] ?_
        exact k
set_option maxRecDepth 100000 in
set_option maxHeartbeats 4000000 in
theorem tX1_moor_B (d n : Nat) (rec : Int32 → Int32 → Int32 → Int32 → (Nat → Nat → Int32) → Nat → Option ((Nat → Nat → Int32))) (hrec : ∀ (x1 : Int32) (x2 : Int32) (x3 : Int32) (x4 : Int32) (I : Nat → Nat → Int32) (J : Nat → Nat → Int64) (rv sp rr w nw : Nat), (rv = 3 ∨ rv = 19) → ∀ (out : (Nat → Nat → Int32)), rec x1 x2 x3 x4 I rv = some out → mm_T none d 8 (mm_ent 8 [(.ref 50), (.int x1), (.int x2), (.int x3), (.int x4)]) (107, I, J, mm_rf rv sp rr w nw) (fun v h => v = none ∧ h = (107, out, J, mm_rf rv sp rr w nw))) (x1 : Int32) (x2 : Int32) (x3 : Int32) (x4 : Int32) (I : Nat → Nat → Int32) (J : Nat → Nat → Int64) (rv sp rr w nw : Nat) (hrv : rv = 3 ∨ rv = 19) (out : (Nat → Nat → Int32)) (e : fX1_moor_B n rec x1 x2 x3 x4 I rv = some out) : mm_T none (d + 3) 8 (mm_ent 8 [(.ref 50), (.int x1), (.int x2), (.int x3), (.int x4)]) (107, I, J, mm_rf rv sp rr w nw) (fun v h => v = none ∧ h = (107, out, J, mm_rf rv sp rr w nw)) := by
  rcases hrv with rfl | rfl
  · unfold fX1_moor_B at e
    refine mm_T.seg (f' := (5, [some (.ref 50), some (.int x1), some (.int x2), some (.int x3), some (.int x4), none, none, none, none], [(.ref 18), (.int x3)])) (h' := (107, I, J, mm_rf 3 sp rr w nw)) 3 rfl ?_
    refine mm_T.seg (f' := (22, [some (.ref 50), some (.int x1), some (.int x2), some (.int x3), some (.int x4), some (.int ((x3 + (I 3 4)) - x1)), none, none, none], [(.int (I 50 5)), (.int ((x3 + (I 3 4)) - x1))])) (h' := (107, I, J, mm_rf 3 sp rr w nw)) 9 rfl ?_
    refine mm_T.br (c := ((x3 + (I 3 4)) - x1) < (I 50 5)) (a := ((43, [some (.ref 50), some (.int x1), some (.int x2), some (.int x3), some (.int x4), some (.int ((x3 + (I 3 4)) - x1)), none, none, none], []), (107, I, J, mm_rf 3 sp rr w nw))) (b := ((25, [some (.ref 50), some (.int x1), some (.int x2), some (.int x3), some (.int x4), some (.int ((x3 + (I 3 4)) - x1)), none, none, none], []), (107, I, J, mm_rf 3 sp rr w nw))) rfl (fun h1357 => ?_) (fun h1357 => ?_)
    · rw [if_pos h1357] at e
      cases e
      exact mm_T.ret rfl ⟨rfl, rfl⟩
    · rw [if_neg h1357] at e
      refine mm_T.seg (f' := (31, [some (.ref 50), some (.int x1), some (.int x2), some (.int x3), some (.int x4), some (.int ((x3 + (I 3 4)) - x1)), none, none, none], [(.int (I 50 5)), (.int ((x3 + (I 3 4)) - x1))])) (h' := (107, I, J, mm_rf 3 sp rr w nw)) 3 rfl ?_
      refine mm_T.br (c := ((x3 + (I 3 4)) - x1) = (I 50 5)) (a := ((34, [some (.ref 50), some (.int x1), some (.int x2), some (.int x3), some (.int x4), some (.int ((x3 + (I 3 4)) - x1)), none, none, none], []), (107, I, J, mm_rf 3 sp rr w nw))) (b := ((44, [some (.ref 50), some (.int x1), some (.int x2), some (.int x3), some (.int x4), some (.int ((x3 + (I 3 4)) - x1)), none, none, none], []), (107, I, J, mm_rf 3 sp rr w nw))) rfl (fun h1358 => ?_) (fun h1358 => ?_)
      · rw [if_pos h1358] at e
        refine mm_T.seg (f' := (40, [some (.ref 50), some (.int x1), some (.int x2), some (.int x3), some (.int x4), some (.int ((x3 + (I 3 4)) - x1)), none, none, none], [(.int (I 50 6)), (.int x4)])) (h' := (107, I, J, mm_rf 3 sp rr w nw)) 3 rfl ?_
        refine mm_T.br (c := x4 < (I 50 6)) (a := ((44, [some (.ref 50), some (.int x1), some (.int x2), some (.int x3), some (.int x4), some (.int ((x3 + (I 3 4)) - x1)), none, none, none], []), (107, I, J, mm_rf 3 sp rr w nw))) (b := ((43, [some (.ref 50), some (.int x1), some (.int x2), some (.int x3), some (.int x4), some (.int ((x3 + (I 3 4)) - x1)), none, none, none], []), (107, I, J, mm_rf 3 sp rr w nw))) rfl (fun h1359 => ?_) (fun h1359 => ?_)
        · rw [if_pos h1359] at e
          refine mm_T.seg (f' := (49, [some (.ref 50), some (.int x1), some (.int x2), some (.int x3), some (.int x4), some (.int ((x3 + (I 3 4)) - x1)), none, none, none], [(.ref 18), (.int x1)])) (h' := (107, I, J, mm_rf 3 sp rr w nw)) 3 rfl ?_
          refine mm_T.seg (f' := (55, [some (.ref 50), some (.int x1), some (.int x2), some (.int x3), some (.int x4), some (.int ((x3 + (I 3 4)) - x1)), none, none, none], [(.int (I 3 4)), (.int x1)])) (h' := (107, I, J, mm_rf 3 sp rr w nw)) 2 rfl ?_
          refine mm_T.br (c := x1 < (I 3 4)) (a := ((84, [some (.ref 50), some (.int x1), some (.int x2), some (.int x3), some (.int x4), some (.int ((x3 + (I 3 4)) - x1)), none, none, none], []), (107, I, J, mm_rf 3 sp rr w nw))) (b := ((58, [some (.ref 50), some (.int x1), some (.int x2), some (.int x3), some (.int x4), some (.int ((x3 + (I 3 4)) - x1)), none, none, none], []), (107, I, J, mm_rf 3 sp rr w nw))) rfl (fun h1360 => ?_) (fun h1360 => ?_)
          · rw [if_pos h1360] at e
            refine mm_T.seg (f' := (88, [some (.ref 50), some (.int x1), some (.int x2), some (.int x3), some (.int x4), some (.int ((x3 + (I 3 4)) - x1)), none, none, none], [(.ref 51)])) (h' := (107, I, J, mm_rf 3 sp rr w nw)) 2 rfl ?_
            refine mm_T.seg (f' := (89, [some (.ref 50), some (.int x1), some (.int x2), some (.int x3), some (.int x4), some (.int ((x3 + (I 3 4)) - x1)), none, none, none], [(.int x1), (.ref 51)])) (h' := (107, I, J, mm_rf 3 sp rr w nw)) 1 rfl ?_
            refine mm_T.call (t := 204) (as := [(.ref 51), (.int x1)]) (f' := (92, [some (.ref 50), some (.int x1), some (.int x2), some (.int x3), some (.int x4), some (.int ((x3 + (I 3 4)) - x1)), none, none, none], [])) rfl (t_pick _ 51 4 x1 I J (mm_rf 3 sp rr w nw) rfl rfl) (fun v h hq => ?_)
            obtain ⟨rfl, rfl⟩ := hq
            refine mm_T.seg (f' := (101, [some (.ref 50), some (.int x1), some (.int x2), some (.int x3), some (.int x4), some (.int ((x3 + (I 3 4)) - x1)), some (.int ((mf_pick I 51 4 x1) &&& (x2 ^^^ (-1)))), some (.int 0), none], [])) (h' := (107, I, J, mm_rf 3 sp rr w nw)) 7 rfl ?_
            refine mm_T.mask [true, true, true, true, true, false, true, true, false] ?_
            obtain ⟨o1368, eo1368, e⟩ := mm_bind e
            refine tlX1_moor_L101 d _ rec hrec n x1 x2 x3 x4 ((mf_pick I 51 4 x1) &&& (x2 ^^^ (-1))) 0 I J 3 sp rr w nw (Or.inl rfl) o1368 eo1368 ?_
            refine mm_T.seg (f' := (183, [some (.ref 50), some (.int x1), some (.int x2), some (.int x3), some (.int x4), none, none, none, none], [(.ref 52)])) (h' := (107, o1368, J, mm_rf 3 sp rr w nw)) 2 rfl ?_
            refine mm_T.seg (f' := (185, [some (.ref 50), some (.int x1), some (.int x2), some (.int x3), some (.int x4), none, none, none, none], [(.int (-1)), (.int x1), (.ref 52)])) (h' := (107, o1368, J, mm_rf 3 sp rr w nw)) 2 rfl ?_
            refine mm_T.call (t := 205) (as := [(.ref 52), (.int x1), (.int (-1))]) (f' := (188, [some (.ref 50), some (.int x1), some (.int x2), some (.int x3), some (.int x4), none, none, none, none], [])) rfl (t_put _ 52 4 x1 (-1) o1368 J (mm_rf 3 sp rr w nw) rfl rfl) (fun v h hq => ?_)
            obtain ⟨rfl, rfl⟩ := hq
            refine mm_T.seg (f' := (196, [some (.ref 50), some (.int x1), some (.int x2), some (.int x3), some (.int x4), none, none, none, none], [(.int x4), (.int x3), (.int x2), (.int (x1 + 1)), (.ref 50)])) (h' := (107, (mf_put o1368 52 4 x1 (-1)), J, mm_rf 3 sp rr w nw)) 7 rfl ?_
            obtain ⟨o1369, eo1369, e⟩ := mm_bind e
            refine mm_T.call (t := 8) (as := [(.ref 50), (.int (x1 + 1)), (.int x2), (.int x3), (.int x4)]) (f' := (199, [some (.ref 50), some (.int x1), some (.int x2), some (.int x3), some (.int x4), none, none, none, none], [])) rfl (mm_T.deep (hrec (x1 + 1) x2 x3 x4 (mf_put o1368 52 4 x1 (-1)) J 3 sp rr w nw (Or.inl rfl) o1369 eo1369) (by omega)) (fun v h hq => ?_)
            obtain ⟨rfl, rfl⟩ := hq
            cases e
            exact mm_T.ret rfl ⟨rfl, rfl⟩
          · rw [if_neg h1360] at e
            refine mm_T.seg (f' := (73, [some (.ref 50), some (.int x1), some (.int x2), some (.int x3), some (.int x4), some (.int ((x3 + (I 3 4)) - x1)), none, none, none], [(.ref 52)])) (h' := (107, (mm_up (mm_up I 50 5 x3) 50 6 x4), J, mm_rf 3 sp rr w nw)) 8 rfl ?_
            refine mm_T.seg (f' := (78, [some (.ref 50), some (.int x1), some (.int x2), some (.int x3), some (.int x4), some (.int ((x3 + (I 3 4)) - x1)), none, none, none], [(.ref 53), (.int 0), (.ref 52)])) (h' := (107, (mm_up (mm_up I 50 5 x3) 50 6 x4), J, mm_rf 3 sp rr w nw)) 3 rfl ?_
            refine mm_T.seg (f' := (83, [some (.ref 50), some (.int x1), some (.int x2), some (.int x3), some (.int x4), some (.int ((x3 + (I 3 4)) - x1)), none, none, none], [])) (h' := (107, (mm_row (mm_up (mm_up I 50 5 x3) 50 6 x4) 53 (va_cpy ((mm_up (mm_up I 50 5 x3) 50 6 x4) 52) ((mm_up (mm_up I 50 5 x3) 50 6 x4) 53) 0 0 4)), J, mm_rf 3 sp rr w nw)) 3 rfl ?_
            cases e
            exact mm_T.ret rfl ⟨rfl, rfl⟩
        · rw [if_neg h1359] at e
          cases e
          exact mm_T.ret rfl ⟨rfl, rfl⟩
      · rw [if_neg h1358] at e
        refine mm_T.seg (f' := (49, [some (.ref 50), some (.int x1), some (.int x2), some (.int x3), some (.int x4), some (.int ((x3 + (I 3 4)) - x1)), none, none, none], [(.ref 18), (.int x1)])) (h' := (107, I, J, mm_rf 3 sp rr w nw)) 3 rfl ?_
        refine mm_T.seg (f' := (55, [some (.ref 50), some (.int x1), some (.int x2), some (.int x3), some (.int x4), some (.int ((x3 + (I 3 4)) - x1)), none, none, none], [(.int (I 3 4)), (.int x1)])) (h' := (107, I, J, mm_rf 3 sp rr w nw)) 2 rfl ?_
        refine mm_T.br (c := x1 < (I 3 4)) (a := ((84, [some (.ref 50), some (.int x1), some (.int x2), some (.int x3), some (.int x4), some (.int ((x3 + (I 3 4)) - x1)), none, none, none], []), (107, I, J, mm_rf 3 sp rr w nw))) (b := ((58, [some (.ref 50), some (.int x1), some (.int x2), some (.int x3), some (.int x4), some (.int ((x3 + (I 3 4)) - x1)), none, none, none], []), (107, I, J, mm_rf 3 sp rr w nw))) rfl (fun h1370 => ?_) (fun h1370 => ?_)
        · rw [if_pos h1370] at e
          refine mm_T.seg (f' := (88, [some (.ref 50), some (.int x1), some (.int x2), some (.int x3), some (.int x4), some (.int ((x3 + (I 3 4)) - x1)), none, none, none], [(.ref 51)])) (h' := (107, I, J, mm_rf 3 sp rr w nw)) 2 rfl ?_
          refine mm_T.seg (f' := (89, [some (.ref 50), some (.int x1), some (.int x2), some (.int x3), some (.int x4), some (.int ((x3 + (I 3 4)) - x1)), none, none, none], [(.int x1), (.ref 51)])) (h' := (107, I, J, mm_rf 3 sp rr w nw)) 1 rfl ?_
          refine mm_T.call (t := 204) (as := [(.ref 51), (.int x1)]) (f' := (92, [some (.ref 50), some (.int x1), some (.int x2), some (.int x3), some (.int x4), some (.int ((x3 + (I 3 4)) - x1)), none, none, none], [])) rfl (t_pick _ 51 4 x1 I J (mm_rf 3 sp rr w nw) rfl rfl) (fun v h hq => ?_)
          obtain ⟨rfl, rfl⟩ := hq
          refine mm_T.seg (f' := (101, [some (.ref 50), some (.int x1), some (.int x2), some (.int x3), some (.int x4), some (.int ((x3 + (I 3 4)) - x1)), some (.int ((mf_pick I 51 4 x1) &&& (x2 ^^^ (-1)))), some (.int 0), none], [])) (h' := (107, I, J, mm_rf 3 sp rr w nw)) 7 rfl ?_
          refine mm_T.mask [true, true, true, true, true, false, true, true, false] ?_
          obtain ⟨o1371, eo1371, e⟩ := mm_bind e
          refine tlX1_moor_L101 d _ rec hrec n x1 x2 x3 x4 ((mf_pick I 51 4 x1) &&& (x2 ^^^ (-1))) 0 I J 3 sp rr w nw (Or.inl rfl) o1371 eo1371 ?_
          refine mm_T.seg (f' := (183, [some (.ref 50), some (.int x1), some (.int x2), some (.int x3), some (.int x4), none, none, none, none], [(.ref 52)])) (h' := (107, o1371, J, mm_rf 3 sp rr w nw)) 2 rfl ?_
          refine mm_T.seg (f' := (185, [some (.ref 50), some (.int x1), some (.int x2), some (.int x3), some (.int x4), none, none, none, none], [(.int (-1)), (.int x1), (.ref 52)])) (h' := (107, o1371, J, mm_rf 3 sp rr w nw)) 2 rfl ?_
          refine mm_T.call (t := 205) (as := [(.ref 52), (.int x1), (.int (-1))]) (f' := (188, [some (.ref 50), some (.int x1), some (.int x2), some (.int x3), some (.int x4), none, none, none, none], [])) rfl (t_put _ 52 4 x1 (-1) o1371 J (mm_rf 3 sp rr w nw) rfl rfl) (fun v h hq => ?_)
          obtain ⟨rfl, rfl⟩ := hq
          refine mm_T.seg (f' := (196, [some (.ref 50), some (.int x1), some (.int x2), some (.int x3), some (.int x4), none, none, none, none], [(.int x4), (.int x3), (.int x2), (.int (x1 + 1)), (.ref 50)])) (h' := (107, (mf_put o1371 52 4 x1 (-1)), J, mm_rf 3 sp rr w nw)) 7 rfl ?_
          obtain ⟨o1372, eo1372, e⟩ := mm_bind e
          refine mm_T.call (t := 8) (as := [(.ref 50), (.int (x1 + 1)), (.int x2), (.int x3), (.int x4)]) (f' := (199, [some (.ref 50), some (.int x1), some (.int x2), some (.int x3), some (.int x4), none, none, none, none], [])) rfl (mm_T.deep (hrec (x1 + 1) x2 x3 x4 (mf_put o1371 52 4 x1 (-1)) J 3 sp rr w nw (Or.inl rfl) o1372 eo1372) (by omega)) (fun v h hq => ?_)
          obtain ⟨rfl, rfl⟩ := hq
          cases e
          exact mm_T.ret rfl ⟨rfl, rfl⟩
        · rw [if_neg h1370] at e
          refine mm_T.seg (f' := (73, [some (.ref 50), some (.int x1), some (.int x2), some (.int x3), some (.int x4), some (.int ((x3 + (I 3 4)) - x1)), none, none, none], [(.ref 52)])) (h' := (107, (mm_up (mm_up I 50 5 x3) 50 6 x4), J, mm_rf 3 sp rr w nw)) 8 rfl ?_
          refine mm_T.seg (f' := (78, [some (.ref 50), some (.int x1), some (.int x2), some (.int x3), some (.int x4), some (.int ((x3 + (I 3 4)) - x1)), none, none, none], [(.ref 53), (.int 0), (.ref 52)])) (h' := (107, (mm_up (mm_up I 50 5 x3) 50 6 x4), J, mm_rf 3 sp rr w nw)) 3 rfl ?_
          refine mm_T.seg (f' := (83, [some (.ref 50), some (.int x1), some (.int x2), some (.int x3), some (.int x4), some (.int ((x3 + (I 3 4)) - x1)), none, none, none], [])) (h' := (107, (mm_row (mm_up (mm_up I 50 5 x3) 50 6 x4) 53 (va_cpy ((mm_up (mm_up I 50 5 x3) 50 6 x4) 52) ((mm_up (mm_up I 50 5 x3) 50 6 x4) 53) 0 0 4)), J, mm_rf 3 sp rr w nw)) 3 rfl ?_
          cases e
          exact mm_T.ret rfl ⟨rfl, rfl⟩
  · unfold fX1_moor_B at e
    refine mm_T.seg (f' := (5, [some (.ref 50), some (.int x1), some (.int x2), some (.int x3), some (.int x4), none, none, none, none], [(.ref 18), (.int x3)])) (h' := (107, I, J, mm_rf 19 sp rr w nw)) 3 rfl ?_
    refine mm_T.seg (f' := (22, [some (.ref 50), some (.int x1), some (.int x2), some (.int x3), some (.int x4), some (.int ((x3 + (I 19 4)) - x1)), none, none, none], [(.int (I 50 5)), (.int ((x3 + (I 19 4)) - x1))])) (h' := (107, I, J, mm_rf 19 sp rr w nw)) 9 rfl ?_
    refine mm_T.br (c := ((x3 + (I 19 4)) - x1) < (I 50 5)) (a := ((43, [some (.ref 50), some (.int x1), some (.int x2), some (.int x3), some (.int x4), some (.int ((x3 + (I 19 4)) - x1)), none, none, none], []), (107, I, J, mm_rf 19 sp rr w nw))) (b := ((25, [some (.ref 50), some (.int x1), some (.int x2), some (.int x3), some (.int x4), some (.int ((x3 + (I 19 4)) - x1)), none, none, none], []), (107, I, J, mm_rf 19 sp rr w nw))) rfl (fun h1357 => ?_) (fun h1357 => ?_)
    · rw [if_pos h1357] at e
      cases e
      exact mm_T.ret rfl ⟨rfl, rfl⟩
    · rw [if_neg h1357] at e
      refine mm_T.seg (f' := (31, [some (.ref 50), some (.int x1), some (.int x2), some (.int x3), some (.int x4), some (.int ((x3 + (I 19 4)) - x1)), none, none, none], [(.int (I 50 5)), (.int ((x3 + (I 19 4)) - x1))])) (h' := (107, I, J, mm_rf 19 sp rr w nw)) 3 rfl ?_
      refine mm_T.br (c := ((x3 + (I 19 4)) - x1) = (I 50 5)) (a := ((34, [some (.ref 50), some (.int x1), some (.int x2), some (.int x3), some (.int x4), some (.int ((x3 + (I 19 4)) - x1)), none, none, none], []), (107, I, J, mm_rf 19 sp rr w nw))) (b := ((44, [some (.ref 50), some (.int x1), some (.int x2), some (.int x3), some (.int x4), some (.int ((x3 + (I 19 4)) - x1)), none, none, none], []), (107, I, J, mm_rf 19 sp rr w nw))) rfl (fun h1358 => ?_) (fun h1358 => ?_)
      · rw [if_pos h1358] at e
        refine mm_T.seg (f' := (40, [some (.ref 50), some (.int x1), some (.int x2), some (.int x3), some (.int x4), some (.int ((x3 + (I 19 4)) - x1)), none, none, none], [(.int (I 50 6)), (.int x4)])) (h' := (107, I, J, mm_rf 19 sp rr w nw)) 3 rfl ?_
        refine mm_T.br (c := x4 < (I 50 6)) (a := ((44, [some (.ref 50), some (.int x1), some (.int x2), some (.int x3), some (.int x4), some (.int ((x3 + (I 19 4)) - x1)), none, none, none], []), (107, I, J, mm_rf 19 sp rr w nw))) (b := ((43, [some (.ref 50), some (.int x1), some (.int x2), some (.int x3), some (.int x4), some (.int ((x3 + (I 19 4)) - x1)), none, none, none], []), (107, I, J, mm_rf 19 sp rr w nw))) rfl (fun h1359 => ?_) (fun h1359 => ?_)
        · rw [if_pos h1359] at e
          refine mm_T.seg (f' := (49, [some (.ref 50), some (.int x1), some (.int x2), some (.int x3), some (.int x4), some (.int ((x3 + (I 19 4)) - x1)), none, none, none], [(.ref 18), (.int x1)])) (h' := (107, I, J, mm_rf 19 sp rr w nw)) 3 rfl ?_
          refine mm_T.seg (f' := (55, [some (.ref 50), some (.int x1), some (.int x2), some (.int x3), some (.int x4), some (.int ((x3 + (I 19 4)) - x1)), none, none, none], [(.int (I 19 4)), (.int x1)])) (h' := (107, I, J, mm_rf 19 sp rr w nw)) 2 rfl ?_
          refine mm_T.br (c := x1 < (I 19 4)) (a := ((84, [some (.ref 50), some (.int x1), some (.int x2), some (.int x3), some (.int x4), some (.int ((x3 + (I 19 4)) - x1)), none, none, none], []), (107, I, J, mm_rf 19 sp rr w nw))) (b := ((58, [some (.ref 50), some (.int x1), some (.int x2), some (.int x3), some (.int x4), some (.int ((x3 + (I 19 4)) - x1)), none, none, none], []), (107, I, J, mm_rf 19 sp rr w nw))) rfl (fun h1360 => ?_) (fun h1360 => ?_)
          · rw [if_pos h1360] at e
            refine mm_T.seg (f' := (88, [some (.ref 50), some (.int x1), some (.int x2), some (.int x3), some (.int x4), some (.int ((x3 + (I 19 4)) - x1)), none, none, none], [(.ref 51)])) (h' := (107, I, J, mm_rf 19 sp rr w nw)) 2 rfl ?_
            refine mm_T.seg (f' := (89, [some (.ref 50), some (.int x1), some (.int x2), some (.int x3), some (.int x4), some (.int ((x3 + (I 19 4)) - x1)), none, none, none], [(.int x1), (.ref 51)])) (h' := (107, I, J, mm_rf 19 sp rr w nw)) 1 rfl ?_
            refine mm_T.call (t := 204) (as := [(.ref 51), (.int x1)]) (f' := (92, [some (.ref 50), some (.int x1), some (.int x2), some (.int x3), some (.int x4), some (.int ((x3 + (I 19 4)) - x1)), none, none, none], [])) rfl (t_pick _ 51 4 x1 I J (mm_rf 19 sp rr w nw) rfl rfl) (fun v h hq => ?_)
            obtain ⟨rfl, rfl⟩ := hq
            refine mm_T.seg (f' := (101, [some (.ref 50), some (.int x1), some (.int x2), some (.int x3), some (.int x4), some (.int ((x3 + (I 19 4)) - x1)), some (.int ((mf_pick I 51 4 x1) &&& (x2 ^^^ (-1)))), some (.int 0), none], [])) (h' := (107, I, J, mm_rf 19 sp rr w nw)) 7 rfl ?_
            refine mm_T.mask [true, true, true, true, true, false, true, true, false] ?_
            obtain ⟨o1368, eo1368, e⟩ := mm_bind e
            refine tlX1_moor_L101 d _ rec hrec n x1 x2 x3 x4 ((mf_pick I 51 4 x1) &&& (x2 ^^^ (-1))) 0 I J 19 sp rr w nw (Or.inr rfl) o1368 eo1368 ?_
            refine mm_T.seg (f' := (183, [some (.ref 50), some (.int x1), some (.int x2), some (.int x3), some (.int x4), none, none, none, none], [(.ref 52)])) (h' := (107, o1368, J, mm_rf 19 sp rr w nw)) 2 rfl ?_
            refine mm_T.seg (f' := (185, [some (.ref 50), some (.int x1), some (.int x2), some (.int x3), some (.int x4), none, none, none, none], [(.int (-1)), (.int x1), (.ref 52)])) (h' := (107, o1368, J, mm_rf 19 sp rr w nw)) 2 rfl ?_
            refine mm_T.call (t := 205) (as := [(.ref 52), (.int x1), (.int (-1))]) (f' := (188, [some (.ref 50), some (.int x1), some (.int x2), some (.int x3), some (.int x4), none, none, none, none], [])) rfl (t_put _ 52 4 x1 (-1) o1368 J (mm_rf 19 sp rr w nw) rfl rfl) (fun v h hq => ?_)
            obtain ⟨rfl, rfl⟩ := hq
            refine mm_T.seg (f' := (196, [some (.ref 50), some (.int x1), some (.int x2), some (.int x3), some (.int x4), none, none, none, none], [(.int x4), (.int x3), (.int x2), (.int (x1 + 1)), (.ref 50)])) (h' := (107, (mf_put o1368 52 4 x1 (-1)), J, mm_rf 19 sp rr w nw)) 7 rfl ?_
            obtain ⟨o1369, eo1369, e⟩ := mm_bind e
            refine mm_T.call (t := 8) (as := [(.ref 50), (.int (x1 + 1)), (.int x2), (.int x3), (.int x4)]) (f' := (199, [some (.ref 50), some (.int x1), some (.int x2), some (.int x3), some (.int x4), none, none, none, none], [])) rfl (mm_T.deep (hrec (x1 + 1) x2 x3 x4 (mf_put o1368 52 4 x1 (-1)) J 19 sp rr w nw (Or.inr rfl) o1369 eo1369) (by omega)) (fun v h hq => ?_)
            obtain ⟨rfl, rfl⟩ := hq
            cases e
            exact mm_T.ret rfl ⟨rfl, rfl⟩
          · rw [if_neg h1360] at e
            refine mm_T.seg (f' := (73, [some (.ref 50), some (.int x1), some (.int x2), some (.int x3), some (.int x4), some (.int ((x3 + (I 19 4)) - x1)), none, none, none], [(.ref 52)])) (h' := (107, (mm_up (mm_up I 50 5 x3) 50 6 x4), J, mm_rf 19 sp rr w nw)) 8 rfl ?_
            refine mm_T.seg (f' := (78, [some (.ref 50), some (.int x1), some (.int x2), some (.int x3), some (.int x4), some (.int ((x3 + (I 19 4)) - x1)), none, none, none], [(.ref 53), (.int 0), (.ref 52)])) (h' := (107, (mm_up (mm_up I 50 5 x3) 50 6 x4), J, mm_rf 19 sp rr w nw)) 3 rfl ?_
            refine mm_T.seg (f' := (83, [some (.ref 50), some (.int x1), some (.int x2), some (.int x3), some (.int x4), some (.int ((x3 + (I 19 4)) - x1)), none, none, none], [])) (h' := (107, (mm_row (mm_up (mm_up I 50 5 x3) 50 6 x4) 53 (va_cpy ((mm_up (mm_up I 50 5 x3) 50 6 x4) 52) ((mm_up (mm_up I 50 5 x3) 50 6 x4) 53) 0 0 4)), J, mm_rf 19 sp rr w nw)) 3 rfl ?_
            cases e
            exact mm_T.ret rfl ⟨rfl, rfl⟩
        · rw [if_neg h1359] at e
          cases e
          exact mm_T.ret rfl ⟨rfl, rfl⟩
      · rw [if_neg h1358] at e
        refine mm_T.seg (f' := (49, [some (.ref 50), some (.int x1), some (.int x2), some (.int x3), some (.int x4), some (.int ((x3 + (I 19 4)) - x1)), none, none, none], [(.ref 18), (.int x1)])) (h' := (107, I, J, mm_rf 19 sp rr w nw)) 3 rfl ?_
        refine mm_T.seg (f' := (55, [some (.ref 50), some (.int x1), some (.int x2), some (.int x3), some (.int x4), some (.int ((x3 + (I 19 4)) - x1)), none, none, none], [(.int (I 19 4)), (.int x1)])) (h' := (107, I, J, mm_rf 19 sp rr w nw)) 2 rfl ?_
        refine mm_T.br (c := x1 < (I 19 4)) (a := ((84, [some (.ref 50), some (.int x1), some (.int x2), some (.int x3), some (.int x4), some (.int ((x3 + (I 19 4)) - x1)), none, none, none], []), (107, I, J, mm_rf 19 sp rr w nw))) (b := ((58, [some (.ref 50), some (.int x1), some (.int x2), some (.int x3), some (.int x4), some (.int ((x3 + (I 19 4)) - x1)), none, none, none], []), (107, I, J, mm_rf 19 sp rr w nw))) rfl (fun h1370 => ?_) (fun h1370 => ?_)
        · rw [if_pos h1370] at e
          refine mm_T.seg (f' := (88, [some (.ref 50), some (.int x1), some (.int x2), some (.int x3), some (.int x4), some (.int ((x3 + (I 19 4)) - x1)), none, none, none], [(.ref 51)])) (h' := (107, I, J, mm_rf 19 sp rr w nw)) 2 rfl ?_
          refine mm_T.seg (f' := (89, [some (.ref 50), some (.int x1), some (.int x2), some (.int x3), some (.int x4), some (.int ((x3 + (I 19 4)) - x1)), none, none, none], [(.int x1), (.ref 51)])) (h' := (107, I, J, mm_rf 19 sp rr w nw)) 1 rfl ?_
          refine mm_T.call (t := 204) (as := [(.ref 51), (.int x1)]) (f' := (92, [some (.ref 50), some (.int x1), some (.int x2), some (.int x3), some (.int x4), some (.int ((x3 + (I 19 4)) - x1)), none, none, none], [])) rfl (t_pick _ 51 4 x1 I J (mm_rf 19 sp rr w nw) rfl rfl) (fun v h hq => ?_)
          obtain ⟨rfl, rfl⟩ := hq
          refine mm_T.seg (f' := (101, [some (.ref 50), some (.int x1), some (.int x2), some (.int x3), some (.int x4), some (.int ((x3 + (I 19 4)) - x1)), some (.int ((mf_pick I 51 4 x1) &&& (x2 ^^^ (-1)))), some (.int 0), none], [])) (h' := (107, I, J, mm_rf 19 sp rr w nw)) 7 rfl ?_
          refine mm_T.mask [true, true, true, true, true, false, true, true, false] ?_
          obtain ⟨o1371, eo1371, e⟩ := mm_bind e
          refine tlX1_moor_L101 d _ rec hrec n x1 x2 x3 x4 ((mf_pick I 51 4 x1) &&& (x2 ^^^ (-1))) 0 I J 19 sp rr w nw (Or.inr rfl) o1371 eo1371 ?_
          refine mm_T.seg (f' := (183, [some (.ref 50), some (.int x1), some (.int x2), some (.int x3), some (.int x4), none, none, none, none], [(.ref 52)])) (h' := (107, o1371, J, mm_rf 19 sp rr w nw)) 2 rfl ?_
          refine mm_T.seg (f' := (185, [some (.ref 50), some (.int x1), some (.int x2), some (.int x3), some (.int x4), none, none, none, none], [(.int (-1)), (.int x1), (.ref 52)])) (h' := (107, o1371, J, mm_rf 19 sp rr w nw)) 2 rfl ?_
          refine mm_T.call (t := 205) (as := [(.ref 52), (.int x1), (.int (-1))]) (f' := (188, [some (.ref 50), some (.int x1), some (.int x2), some (.int x3), some (.int x4), none, none, none, none], [])) rfl (t_put _ 52 4 x1 (-1) o1371 J (mm_rf 19 sp rr w nw) rfl rfl) (fun v h hq => ?_)
          obtain ⟨rfl, rfl⟩ := hq
          refine mm_T.seg (f' := (196, [some (.ref 50), some (.int x1), some (.int x2), some (.int x3), some (.int x4), none, none, none, none], [(.int x4), (.int x3), (.int x2), (.int (x1 + 1)), (.ref 50)])) (h' := (107, (mf_put o1371 52 4 x1 (-1)), J, mm_rf 19 sp rr w nw)) 7 rfl ?_
          obtain ⟨o1372, eo1372, e⟩ := mm_bind e
          refine mm_T.call (t := 8) (as := [(.ref 50), (.int (x1 + 1)), (.int x2), (.int x3), (.int x4)]) (f' := (199, [some (.ref 50), some (.int x1), some (.int x2), some (.int x3), some (.int x4), none, none, none, none], [])) rfl (mm_T.deep (hrec (x1 + 1) x2 x3 x4 (mf_put o1371 52 4 x1 (-1)) J 19 sp rr w nw (Or.inr rfl) o1372 eo1372) (by omega)) (fun v h hq => ?_)
          obtain ⟨rfl, rfl⟩ := hq
          cases e
          exact mm_T.ret rfl ⟨rfl, rfl⟩
        · rw [if_neg h1370] at e
          refine mm_T.seg (f' := (73, [some (.ref 50), some (.int x1), some (.int x2), some (.int x3), some (.int x4), some (.int ((x3 + (I 19 4)) - x1)), none, none, none], [(.ref 52)])) (h' := (107, (mm_up (mm_up I 50 5 x3) 50 6 x4), J, mm_rf 19 sp rr w nw)) 8 rfl ?_
          refine mm_T.seg (f' := (78, [some (.ref 50), some (.int x1), some (.int x2), some (.int x3), some (.int x4), some (.int ((x3 + (I 19 4)) - x1)), none, none, none], [(.ref 53), (.int 0), (.ref 52)])) (h' := (107, (mm_up (mm_up I 50 5 x3) 50 6 x4), J, mm_rf 19 sp rr w nw)) 3 rfl ?_
          refine mm_T.seg (f' := (83, [some (.ref 50), some (.int x1), some (.int x2), some (.int x3), some (.int x4), some (.int ((x3 + (I 19 4)) - x1)), none, none, none], [])) (h' := (107, (mm_row (mm_up (mm_up I 50 5 x3) 50 6 x4) 53 (va_cpy ((mm_up (mm_up I 50 5 x3) 50 6 x4) 52) ((mm_up (mm_up I 50 5 x3) 50 6 x4) 53) 0 0 4)), J, mm_rf 19 sp rr w nw)) 3 rfl ?_
          cases e
          exact mm_T.ret rfl ⟨rfl, rfl⟩
theorem tX1_moor (d n : Nat) : ∀ (q : Nat) (x1 : Int32) (x2 : Int32) (x3 : Int32) (x4 : Int32) (I : Nat → Nat → Int32) (J : Nat → Nat → Int64) (rv sp rr w nw : Nat), (rv = 3 ∨ rv = 19) → ∀ (out : (Nat → Nat → Int32)), fX1_moor n q x1 x2 x3 x4 I rv = some out → mm_T none (d + 3 * q) 8 (mm_ent 8 [(.ref 50), (.int x1), (.int x2), (.int x3), (.int x4)]) (107, I, J, mm_rf rv sp rr w nw) (fun v h => v = none ∧ h = (107, out, J, mm_rf rv sp rr w nw)) := by
  intro q
  induction q with
  | zero =>
    intro x1 x2 x3 x4 I J rv sp rr w nw hrv out e
    rw [fX1_moor] at e; cases e
  | succ q ih =>
    intro x1 x2 x3 x4 I J rv sp rr w nw hrv out e
    rw [fX1_moor] at e
    exact tX1_moor_B (d + 3 * q) n (fX1_moor n q) ih x1 x2 x3 x4 I J rv sp rr w nw hrv out e
set_option maxRecDepth 100000 in
set_option maxHeartbeats 4000000 in
theorem tlX1_findMooring_L2 (d : Nat) (Q : Option Value → mm_H → Prop) : ∀ (n : Nat) (y1 : Int32) (I : Nat → Nat → Int32) (J : Nat → Nat → Int64) (rv sp rr w nw : Nat), (rv = 3 ∨ rv = 19) → ∀ (out : (Nat → Nat → Int32)), fX1_findMooring_L2 n y1 I rv = some out → mm_T none (d + 19) 7 (53, [some (.ref 50), none], []) (107, out, J, mm_rf rv sp rr w nw) Q → mm_T none (d + 19) 7 (2, [some (.ref 50), some (.int y1)], []) (107, I, J, mm_rf rv sp rr w nw) Q := by
  intro n
  induction n with
  | zero =>
    intro y1 I J rv sp rr w nw hrv out e k
    rw [fX1_findMooring_L2] at e; cases e
  | succ n ih =>
    intro y1 I J rv sp rr w nw hrv out e k
    rcases hrv with rfl | rfl
    · rw [fX1_findMooring_L2] at e
      refine mm_T.seg (f' := (7, [some (.ref 50), some (.int y1)], [(.ref 18), (.int y1)])) (h' := (107, I, J, mm_rf 3 sp rr w nw)) 3 rfl ?_
      refine mm_T.seg (f' := (13, [some (.ref 50), some (.int y1)], [(.int (I 3 4)), (.int y1)])) (h' := (107, I, J, mm_rf 3 sp rr w nw)) 2 rfl ?_
      refine mm_T.br (c := y1 < (I 3 4)) (a := ((16, [some (.ref 50), some (.int y1)], []), (107, I, J, mm_rf 3 sp rr w nw))) (b := ((53, [some (.ref 50), some (.int y1)], []), (107, I, J, mm_rf 3 sp rr w nw))) rfl (fun h1353 => ?_) (fun h1353 => ?_)
      · rw [if_pos h1353] at e
        refine mm_T.seg (f' := (20, [some (.ref 50), some (.int y1)], [(.ref 51)])) (h' := (107, I, J, mm_rf 3 sp rr w nw)) 2 rfl ?_
        refine mm_T.seg (f' := (25, [some (.ref 50), some (.int y1)], [(.ref 18), (.int y1), (.ref 51)])) (h' := (107, I, J, mm_rf 3 sp rr w nw)) 3 rfl ?_
        refine mm_T.seg (f' := (26, [some (.ref 50), some (.int y1)], [(.int y1), (.ref 18), (.int y1), (.ref 51)])) (h' := (107, I, J, mm_rf 3 sp rr w nw)) 1 rfl ?_
        obtain ⟨g193, hg193⟩ : ∃ z, fX7_rowOf y1 I = z := ⟨_, rfl⟩
        try rw [hg193] at e
        refine mm_T.call (t := 106) (as := [(.ref 18), (.int y1)]) (f' := (29, [some (.ref 50), some (.int y1)], [(.int y1), (.ref 51)])) rfl (tX7_rowOf (d + 16) y1 I J 3 sp rr w nw g193 hg193) (fun v h hq => ?_)
        obtain ⟨rfl, rfl⟩ := hq
        refine mm_T.br (c := g193 = 0) (a := ((32, [some (.ref 50), some (.int y1)], [(.int y1), (.ref 51)]), (107, I, J, mm_rf 3 sp rr w nw))) (b := ((43, [some (.ref 50), some (.int y1)], [(.int y1), (.ref 51)]), (107, I, J, mm_rf 3 sp rr w nw))) rfl (fun h1354 => ?_) (fun h1354 => ?_)
        · rw [if_pos h1354] at e
          refine mm_T.seg (f' := (36, [some (.ref 50), some (.int y1)], [(.ref 37), (.int y1), (.ref 51)])) (h' := (107, I, J, mm_rf 3 sp rr w nw)) 2 rfl ?_
          refine mm_T.seg (f' := (37, [some (.ref 50), some (.int y1)], [(.int y1), (.ref 37), (.int y1), (.ref 51)])) (h' := (107, I, J, mm_rf 3 sp rr w nw)) 1 rfl ?_
          obtain ⟨o1355, eo1355, e⟩ := mm_bind e
          refine mm_T.call (t := 85) (as := [(.ref 37), (.int y1)]) (f' := (40, [some (.ref 50), some (.int y1)], [(.int y1), (.ref 51)])) rfl (tX6_landingBits (d + 15) n y1 I J 3 sp rr w nw (Or.inl rfl) o1355 eo1355) (fun v h hq => ?_)
          obtain ⟨rfl, rfl⟩ := hq
          refine mm_T.seg (f' := (44, [some (.ref 50), some (.int y1)], [(.int o1355), (.int y1), (.ref 51)])) (h' := (107, I, J, mm_rf 3 sp rr w nw)) 1 rfl ?_
          refine mm_T.call (t := 205) (as := [(.ref 51), (.int y1), (.int o1355)]) (f' := (47, [some (.ref 50), some (.int y1)], [])) rfl (t_put _ 51 4 y1 o1355 I J (mm_rf 3 sp rr w nw) rfl rfl) (fun v h hq => ?_)
          obtain ⟨rfl, rfl⟩ := hq
          refine mm_T.seg (f' := (2, [some (.ref 50), some (.int (y1 + 1))], [])) (h' := (107, (mf_put I 51 4 y1 o1355), J, mm_rf 3 sp rr w nw)) 2 rfl ?_
          refine mm_T.mask [true, true] ?_
          exact ih (y1 + 1) (mf_put I 51 4 y1 o1355) J 3 sp rr w nw (Or.inl rfl) out e k
        · rw [if_neg h1354] at e
          refine mm_T.seg (f' := (44, [some (.ref 50), some (.int y1)], [(.int 0), (.int y1), (.ref 51)])) (h' := (107, I, J, mm_rf 3 sp rr w nw)) 1 rfl ?_
          refine mm_T.call (t := 205) (as := [(.ref 51), (.int y1), (.int 0)]) (f' := (47, [some (.ref 50), some (.int y1)], [])) rfl (t_put _ 51 4 y1 0 I J (mm_rf 3 sp rr w nw) rfl rfl) (fun v h hq => ?_)
          obtain ⟨rfl, rfl⟩ := hq
          refine mm_T.seg (f' := (2, [some (.ref 50), some (.int (y1 + 1))], [])) (h' := (107, (mf_put I 51 4 y1 0), J, mm_rf 3 sp rr w nw)) 2 rfl ?_
          refine mm_T.mask [true, true] ?_
          exact ih (y1 + 1) (mf_put I 51 4 y1 0) J 3 sp rr w nw (Or.inl rfl) out e k
      · rw [if_neg h1353] at e
        cases e
        refine mm_T.mask [true, false] ?_
        exact k
    · rw [fX1_findMooring_L2] at e
      refine mm_T.seg (f' := (7, [some (.ref 50), some (.int y1)], [(.ref 18), (.int y1)])) (h' := (107, I, J, mm_rf 19 sp rr w nw)) 3 rfl ?_
      refine mm_T.seg (f' := (13, [some (.ref 50), some (.int y1)], [(.int (I 19 4)), (.int y1)])) (h' := (107, I, J, mm_rf 19 sp rr w nw)) 2 rfl ?_
      refine mm_T.br (c := y1 < (I 19 4)) (a := ((16, [some (.ref 50), some (.int y1)], []), (107, I, J, mm_rf 19 sp rr w nw))) (b := ((53, [some (.ref 50), some (.int y1)], []), (107, I, J, mm_rf 19 sp rr w nw))) rfl (fun h1353 => ?_) (fun h1353 => ?_)
      · rw [if_pos h1353] at e
        refine mm_T.seg (f' := (20, [some (.ref 50), some (.int y1)], [(.ref 51)])) (h' := (107, I, J, mm_rf 19 sp rr w nw)) 2 rfl ?_
        refine mm_T.seg (f' := (25, [some (.ref 50), some (.int y1)], [(.ref 18), (.int y1), (.ref 51)])) (h' := (107, I, J, mm_rf 19 sp rr w nw)) 3 rfl ?_
        refine mm_T.seg (f' := (26, [some (.ref 50), some (.int y1)], [(.int y1), (.ref 18), (.int y1), (.ref 51)])) (h' := (107, I, J, mm_rf 19 sp rr w nw)) 1 rfl ?_
        obtain ⟨g193, hg193⟩ : ∃ z, fX7_rowOf y1 I = z := ⟨_, rfl⟩
        try rw [hg193] at e
        refine mm_T.call (t := 106) (as := [(.ref 18), (.int y1)]) (f' := (29, [some (.ref 50), some (.int y1)], [(.int y1), (.ref 51)])) rfl (tX7_rowOf (d + 16) y1 I J 19 sp rr w nw g193 hg193) (fun v h hq => ?_)
        obtain ⟨rfl, rfl⟩ := hq
        refine mm_T.br (c := g193 = 0) (a := ((32, [some (.ref 50), some (.int y1)], [(.int y1), (.ref 51)]), (107, I, J, mm_rf 19 sp rr w nw))) (b := ((43, [some (.ref 50), some (.int y1)], [(.int y1), (.ref 51)]), (107, I, J, mm_rf 19 sp rr w nw))) rfl (fun h1354 => ?_) (fun h1354 => ?_)
        · rw [if_pos h1354] at e
          refine mm_T.seg (f' := (36, [some (.ref 50), some (.int y1)], [(.ref 37), (.int y1), (.ref 51)])) (h' := (107, I, J, mm_rf 19 sp rr w nw)) 2 rfl ?_
          refine mm_T.seg (f' := (37, [some (.ref 50), some (.int y1)], [(.int y1), (.ref 37), (.int y1), (.ref 51)])) (h' := (107, I, J, mm_rf 19 sp rr w nw)) 1 rfl ?_
          obtain ⟨o1355, eo1355, e⟩ := mm_bind e
          refine mm_T.call (t := 85) (as := [(.ref 37), (.int y1)]) (f' := (40, [some (.ref 50), some (.int y1)], [(.int y1), (.ref 51)])) rfl (tX6_landingBits (d + 15) n y1 I J 19 sp rr w nw (Or.inr rfl) o1355 eo1355) (fun v h hq => ?_)
          obtain ⟨rfl, rfl⟩ := hq
          refine mm_T.seg (f' := (44, [some (.ref 50), some (.int y1)], [(.int o1355), (.int y1), (.ref 51)])) (h' := (107, I, J, mm_rf 19 sp rr w nw)) 1 rfl ?_
          refine mm_T.call (t := 205) (as := [(.ref 51), (.int y1), (.int o1355)]) (f' := (47, [some (.ref 50), some (.int y1)], [])) rfl (t_put _ 51 4 y1 o1355 I J (mm_rf 19 sp rr w nw) rfl rfl) (fun v h hq => ?_)
          obtain ⟨rfl, rfl⟩ := hq
          refine mm_T.seg (f' := (2, [some (.ref 50), some (.int (y1 + 1))], [])) (h' := (107, (mf_put I 51 4 y1 o1355), J, mm_rf 19 sp rr w nw)) 2 rfl ?_
          refine mm_T.mask [true, true] ?_
          exact ih (y1 + 1) (mf_put I 51 4 y1 o1355) J 19 sp rr w nw (Or.inr rfl) out e k
        · rw [if_neg h1354] at e
          refine mm_T.seg (f' := (44, [some (.ref 50), some (.int y1)], [(.int 0), (.int y1), (.ref 51)])) (h' := (107, I, J, mm_rf 19 sp rr w nw)) 1 rfl ?_
          refine mm_T.call (t := 205) (as := [(.ref 51), (.int y1), (.int 0)]) (f' := (47, [some (.ref 50), some (.int y1)], [])) rfl (t_put _ 51 4 y1 0 I J (mm_rf 19 sp rr w nw) rfl rfl) (fun v h hq => ?_)
          obtain ⟨rfl, rfl⟩ := hq
          refine mm_T.seg (f' := (2, [some (.ref 50), some (.int (y1 + 1))], [])) (h' := (107, (mf_put I 51 4 y1 0), J, mm_rf 19 sp rr w nw)) 2 rfl ?_
          refine mm_T.mask [true, true] ?_
          exact ih (y1 + 1) (mf_put I 51 4 y1 0) J 19 sp rr w nw (Or.inr rfl) out e k
      · rw [if_neg h1353] at e
        cases e
        refine mm_T.mask [true, false] ?_
        exact k
set_option maxRecDepth 100000 in
set_option maxHeartbeats 4000000 in
theorem tX1_findMooring (d n : Nat) (I : Nat → Nat → Int32) (J : Nat → Nat → Int64) (rv sp rr w nw : Nat) (hrv : rv = 3 ∨ rv = 19) (out : (Nat → Nat → Int32)) (e : fX1_findMooring n I rv = some out) : mm_T none (d + 19) 7 (mm_ent 7 [(.ref 50)]) (107, I, J, mm_rf rv sp rr w nw) (fun v h => v = none ∧ h = (107, out, J, mm_rf rv sp rr w nw)) := by
  rcases hrv with rfl | rfl
  · unfold fX1_findMooring at e
    refine mm_T.seg (f' := (2, [some (.ref 50), some (.int 0)], [])) (h' := (107, I, J, mm_rf 3 sp rr w nw)) 2 rfl ?_
    refine mm_T.mask [true, true] ?_
    obtain ⟨o1356, eo1356, e⟩ := mm_bind e
    refine tlX1_findMooring_L2 d _ n 0 I J 3 sp rr w nw (Or.inl rfl) o1356 eo1356 ?_
    refine mm_T.seg (f' := (68, [some (.ref 50), none], [(.int 0), (.int 0), (.int 0), (.int 0), (.ref 50)])) (h' := (107, (mm_up (mm_up o1356 50 5 (-1)) 50 6 0), J, mm_rf 3 sp rr w nw)) 11 rfl ?_
    obtain ⟨o1373, eo1373, e⟩ := mm_bind e
    refine mm_T.call (t := 8) (as := [(.ref 50), (.int 0), (.int 0), (.int 0), (.int 0)]) (f' := (71, [some (.ref 50), none], [])) rfl (mm_T.deep (tX1_moor d n 6 0 0 0 0 (mm_up (mm_up o1356 50 5 (-1)) 50 6 0) J 3 sp rr w nw (Or.inl rfl) o1373 eo1373) (by omega)) (fun v h hq => ?_)
    obtain ⟨rfl, rfl⟩ := hq
    cases e
    exact mm_T.ret rfl ⟨rfl, rfl⟩
  · unfold fX1_findMooring at e
    refine mm_T.seg (f' := (2, [some (.ref 50), some (.int 0)], [])) (h' := (107, I, J, mm_rf 19 sp rr w nw)) 2 rfl ?_
    refine mm_T.mask [true, true] ?_
    obtain ⟨o1356, eo1356, e⟩ := mm_bind e
    refine tlX1_findMooring_L2 d _ n 0 I J 19 sp rr w nw (Or.inr rfl) o1356 eo1356 ?_
    refine mm_T.seg (f' := (68, [some (.ref 50), none], [(.int 0), (.int 0), (.int 0), (.int 0), (.ref 50)])) (h' := (107, (mm_up (mm_up o1356 50 5 (-1)) 50 6 0), J, mm_rf 19 sp rr w nw)) 11 rfl ?_
    obtain ⟨o1373, eo1373, e⟩ := mm_bind e
    refine mm_T.call (t := 8) (as := [(.ref 50), (.int 0), (.int 0), (.int 0), (.int 0)]) (f' := (71, [some (.ref 50), none], [])) rfl (mm_T.deep (tX1_moor d n 6 0 0 0 0 (mm_up (mm_up o1356 50 5 (-1)) 50 6 0) J 19 sp rr w nw (Or.inr rfl) o1373 eo1373) (by omega)) (fun v h hq => ?_)
    obtain ⟨rfl, rfl⟩ := hq
    cases e
    exact mm_T.ret rfl ⟨rfl, rfl⟩
set_option maxRecDepth 100000 in
set_option maxHeartbeats 4000000 in
theorem tX1_gain (d : Nat) (x0 : Int32) (x1 : Int32) (x2 : Int32) (I : Nat → Nat → Int32) (J : Nat → Nat → Int64) (rv sp rr w nw : Nat) (out : Int32) (e : fX1_gain x0 x1 x2 = out) : mm_T none (d + 1) 11 (mm_ent 11 [(.int x0), (.int x1), (.int x2)]) (107, I, J, mm_rf rv sp rr w nw) (fun v h => v = some (.int out) ∧ h = (107, I, J, mm_rf rv sp rr w nw)) := by
  unfold fX1_gain at e
  refine mm_T.seg (f' := (2, [some (.int x0), some (.int x1), some (.int x2)], [(.int x1), (.int x0)])) (h' := (107, I, J, mm_rf rv sp rr w nw)) 2 rfl ?_
  refine mm_T.br (c := x0 = x1) (a := ((5, [some (.int x0), some (.int x1), some (.int x2)], []), (107, I, J, mm_rf rv sp rr w nw))) (b := ((9, [some (.int x0), some (.int x1), some (.int x2)], []), (107, I, J, mm_rf rv sp rr w nw))) rfl (fun h1384 => ?_) (fun h1384 => ?_)
  · rw [if_pos h1384] at e
    refine mm_T.seg (f' := (14, [some (.int x0), some (.int x1), some (.int x2)], [(.int (x0 - x2)), (.int 3)])) (h' := (107, I, J, mm_rf rv sp rr w nw)) 5 rfl ?_
    obtain ⟨g200, hg200⟩ : ∃ z, fJ9_abs (x0 - x2) = z := ⟨_, rfl⟩
    try rw [hg200] at e
    refine mm_T.call (t := 346) (as := [(.int (x0 - x2))]) (f' := (17, [some (.int x0), some (.int x1), some (.int x2)], [(.int 3)])) rfl (tJ9_abs (d + 0) (x0 - x2) I J rv sp rr w nw g200 hg200) (fun v h hq => ?_)
    obtain ⟨rfl, rfl⟩ := hq
    refine mm_T.seg (f' := (18, [some (.int x0), some (.int x1), some (.int x2)], [(.int (3 - g200))])) (h' := (107, I, J, mm_rf rv sp rr w nw)) 1 rfl ?_
    cases e
    exact mm_T.ret rfl ⟨rfl, rfl⟩
  · rw [if_neg h1384] at e
    refine mm_T.seg (f' := (14, [some (.int x0), some (.int x1), some (.int x2)], [(.int (x0 - x2)), (.int 9)])) (h' := (107, I, J, mm_rf rv sp rr w nw)) 4 rfl ?_
    obtain ⟨g201, hg201⟩ : ∃ z, fJ9_abs (x0 - x2) = z := ⟨_, rfl⟩
    try rw [hg201] at e
    refine mm_T.call (t := 346) (as := [(.int (x0 - x2))]) (f' := (17, [some (.int x0), some (.int x1), some (.int x2)], [(.int 9)])) rfl (tJ9_abs (d + 0) (x0 - x2) I J rv sp rr w nw g201 hg201) (fun v h hq => ?_)
    obtain ⟨rfl, rfl⟩ := hq
    refine mm_T.seg (f' := (18, [some (.int x0), some (.int x1), some (.int x2)], [(.int (9 - g201))])) (h' := (107, I, J, mm_rf rv sp rr w nw)) 1 rfl ?_
    cases e
    exact mm_T.ret rfl ⟨rfl, rfl⟩
set_option maxRecDepth 100000 in
set_option maxHeartbeats 4000000 in
theorem tlX1_staysBest_L3 (d : Nat) (Q : Option Value → mm_H → Prop) : ∀ (n : Nat) (y0 : Int32) (y1 : Int32) (y2 : Int32) (y3 : Int32) (y4 : Int32) (I : Nat → Nat → Int32) (J : Nat → Nat → Int64) (rv sp rr w nw : Nat), ∀ (out : (Int32 ⊕ (Unit))), fX1_staysBest_L3 n y0 y1 y2 y3 y4 = some out → (∀ (r : Int32), out = .inl r → Q (some (.int r)) (107, I, J, mm_rf rv sp rr w nw)) → (∀ (y : Unit), out = .inr y → mm_T none (d + 2) 10 (43, [none, none, none, none, none], []) (107, I, J, mm_rf rv sp rr w nw) Q) → mm_T none (d + 2) 10 (3, [some (.int y0), some (.int y1), some (.int y2), some (.int y3), some (.int y4)], []) (107, I, J, mm_rf rv sp rr w nw) Q := by
  intro n
  induction n with
  | zero =>
    intro y0 y1 y2 y3 y4 I J rv sp rr w nw out e kr ke
    rw [fX1_staysBest_L3] at e; cases e
  | succ n ih =>
    intro y0 y1 y2 y3 y4 I J rv sp rr w nw out e kr ke
    rw [fX1_staysBest_L3] at e
    refine mm_T.seg (f' := (7, [some (.int y0), some (.int y1), some (.int y2), some (.int y3), some (.int y4)], [(.int 8), (.int y4)])) (h' := (107, I, J, mm_rf rv sp rr w nw)) 2 rfl ?_
    refine mm_T.br (c := y4 < 8) (a := ((10, [some (.int y0), some (.int y1), some (.int y2), some (.int y3), some (.int y4)], []), (107, I, J, mm_rf rv sp rr w nw))) (b := ((43, [some (.int y0), some (.int y1), some (.int y2), some (.int y3), some (.int y4)], []), (107, I, J, mm_rf rv sp rr w nw))) rfl (fun h1382 => ?_) (fun h1382 => ?_)
    · rw [if_pos h1382] at e
      refine mm_T.seg (f' := (16, [some (.int y0), some (.int y1), some (.int y2), some (.int y3), some (.int y4)], [(.int ((y0 >>> (y4 &&& 31)) &&& 1))])) (h' := (107, I, J, mm_rf rv sp rr w nw)) 5 rfl ?_
      refine mm_T.br (c := ((y0 >>> (y4 &&& 31)) &&& 1) = 0) (a := ((37, [some (.int y0), some (.int y1), some (.int y2), some (.int y3), some (.int y4)], []), (107, I, J, mm_rf rv sp rr w nw))) (b := ((19, [some (.int y0), some (.int y1), some (.int y2), some (.int y3), some (.int y4)], []), (107, I, J, mm_rf rv sp rr w nw))) rfl (fun h1383 => ?_) (fun h1383 => ?_)
      · rw [if_pos h1383] at e
        refine mm_T.seg (f' := (3, [some (.int y0), some (.int y1), some (.int y2), some (.int y3), some (.int (y4 + 1))], [])) (h' := (107, I, J, mm_rf rv sp rr w nw)) 2 rfl ?_
        refine mm_T.mask [true, true, true, true, true] ?_
        exact ih y0 y1 y2 y3 (y4 + 1) I J rv sp rr w nw out e kr ke
      · rw [if_neg h1383] at e
        refine mm_T.seg (f' := (23, [some (.int y0), some (.int y1), some (.int y2), some (.int y3), some (.int y4)], [(.int y1), (.int y3), (.int y4)])) (h' := (107, I, J, mm_rf rv sp rr w nw)) 3 rfl ?_
        obtain ⟨g202, hg202⟩ : ∃ z, fX1_gain y4 y3 y1 = z := ⟨_, rfl⟩
        try rw [hg202] at e
        refine mm_T.call (t := 11) (as := [(.int y4), (.int y3), (.int y1)]) (f' := (26, [some (.int y0), some (.int y1), some (.int y2), some (.int y3), some (.int y4)], [])) rfl (tX1_gain (d + 0) y4 y3 y1 I J rv sp rr w nw g202 hg202) (fun v h hq => ?_)
        obtain ⟨rfl, rfl⟩ := hq
        refine mm_T.seg (f' := (29, [some (.int y0), some (.int y1), some (.int y2), some (.int y3), some (.int y4)], [(.int y1), (.int y3), (.int y2), (.int g202)])) (h' := (107, I, J, mm_rf rv sp rr w nw)) 3 rfl ?_
        obtain ⟨g203, hg203⟩ : ∃ z, fX1_gain y2 y3 y1 = z := ⟨_, rfl⟩
        try rw [hg203] at e
        refine mm_T.call (t := 11) (as := [(.int y2), (.int y3), (.int y1)]) (f' := (32, [some (.int y0), some (.int y1), some (.int y2), some (.int y3), some (.int y4)], [(.int g202)])) rfl (tX1_gain (d + 0) y2 y3 y1 I J rv sp rr w nw g203 hg203) (fun v h hq => ?_)
        obtain ⟨rfl, rfl⟩ := hq
        refine mm_T.br (c := g203 < g202) (a := ((35, [some (.int y0), some (.int y1), some (.int y2), some (.int y3), some (.int y4)], []), (107, I, J, mm_rf rv sp rr w nw))) (b := ((37, [some (.int y0), some (.int y1), some (.int y2), some (.int y3), some (.int y4)], []), (107, I, J, mm_rf rv sp rr w nw))) rfl (fun h1385 => ?_) (fun h1385 => ?_)
        · rw [if_pos h1385] at e
          refine mm_T.seg (f' := (36, [some (.int y0), some (.int y1), some (.int y2), some (.int y3), some (.int y4)], [(.int 0)])) (h' := (107, I, J, mm_rf rv sp rr w nw)) 1 rfl ?_
          cases e
          exact mm_T.ret rfl (kr _ rfl)
        · rw [if_neg h1385] at e
          refine mm_T.seg (f' := (3, [some (.int y0), some (.int y1), some (.int y2), some (.int y3), some (.int (y4 + 1))], [])) (h' := (107, I, J, mm_rf rv sp rr w nw)) 2 rfl ?_
          refine mm_T.mask [true, true, true, true, true] ?_
          exact ih y0 y1 y2 y3 (y4 + 1) I J rv sp rr w nw out e kr ke
    · rw [if_neg h1382] at e
      cases e
      refine mm_T.mask [false, false, false, false, false] ?_
      exact ke _ rfl
set_option maxRecDepth 100000 in
set_option maxHeartbeats 4000000 in
theorem tX1_staysBest (d n : Nat) (x0 : Int32) (x1 : Int32) (x2 : Int32) (x3 : Int32) (I : Nat → Nat → Int32) (J : Nat → Nat → Int64) (rv sp rr w nw : Nat) (out : Int32) (e : fX1_staysBest n x0 x1 x2 x3 = some out) : mm_T none (d + 2) 10 (mm_ent 10 [(.int x0), (.int x1), (.int x2), (.int x3)]) (107, I, J, mm_rf rv sp rr w nw) (fun v h => v = some (.int out) ∧ h = (107, I, J, mm_rf rv sp rr w nw)) := by
  unfold fX1_staysBest at e
  refine mm_T.seg (f' := (3, [some (.int x0), some (.int x1), some (.int x2), some (.int x3), some (.int 0)], [])) (h' := (107, I, J, mm_rf rv sp rr w nw)) 2 rfl ?_
  refine mm_T.mask [true, true, true, true, true] ?_
  obtain ⟨o1386, eo1386, e⟩ := mm_bind e
  rcases o1386 with va1387 | vb1387
  · cases e
    refine tlX1_staysBest_L3 d _ n x0 x1 x2 x3 0 I J rv sp rr w nw _ eo1386 (fun z hz => ?_) (fun z hz => ?_)
    · cases hz; exact ⟨rfl, rfl⟩
    · cases hz
  · refine tlX1_staysBest_L3 d _ n x0 x1 x2 x3 0 I J rv sp rr w nw (.inr vb1387) eo1386 (fun z hz => ?_) (fun z hz => ?_)
    · cases hz
    · cases hz
      refine mm_T.seg (f' := (44, [none, none, none, none, none], [(.int 1)])) (h' := (107, I, J, mm_rf rv sp rr w nw)) 1 rfl ?_
      cases e
      exact mm_T.ret rfl ⟨rfl, rfl⟩
set_option maxRecDepth 100000 in
set_option maxHeartbeats 4000000 in
theorem tlX1_countRests_L66 (d : Nat) (Q : Option Value → mm_H → Prop) : ∀ (n : Nat) (y3 : Int32) (y4 : Int32) (y5 : Int32) (y6 : Int32) (y7 : Int32) (y8 : Int32) (y9 : Int32) (I : Nat → Nat → Int32) (J : Nat → Nat → Int64) (rv sp rr w nw : Nat), ∀ (out : Int32 × (Nat → Nat → Int32)), fX1_countRests_L66 n y3 y4 y5 y6 y7 y8 y9 I = some out → mm_T none (d + 4) 9 (176, [some (.ref 50), none, none, some (.int y3), some (.int y4), some (.int y5), some (.int y6), some (.int out.1), some (.int y8), none, none], []) (107, out.2, J, mm_rf rv sp rr w nw) Q → mm_T none (d + 4) 9 (66, [some (.ref 50), none, none, some (.int y3), some (.int y4), some (.int y5), some (.int y6), some (.int y7), some (.int y8), some (.int y9), none], []) (107, I, J, mm_rf rv sp rr w nw) Q := by
  intro n
  induction n with
  | zero =>
    intro y3 y4 y5 y6 y7 y8 y9 I J rv sp rr w nw out e k
    rw [fX1_countRests_L66] at e; cases e
  | succ n ih =>
    intro y3 y4 y5 y6 y7 y8 y9 I J rv sp rr w nw out e k
    rw [fX1_countRests_L66] at e
    refine mm_T.seg (f' := (70, [some (.ref 50), none, none, some (.int y3), some (.int y4), some (.int y5), some (.int y6), some (.int y7), some (.int y8), some (.int y9), none], [(.int 8), (.int y9)])) (h' := (107, I, J, mm_rf rv sp rr w nw)) 2 rfl ?_
    refine mm_T.br (c := y9 < 8) (a := ((73, [some (.ref 50), none, none, some (.int y3), some (.int y4), some (.int y5), some (.int y6), some (.int y7), some (.int y8), some (.int y9), none], []), (107, I, J, mm_rf rv sp rr w nw))) (b := ((176, [some (.ref 50), none, none, some (.int y3), some (.int y4), some (.int y5), some (.int y6), some (.int y7), some (.int y8), some (.int y9), none], []), (107, I, J, mm_rf rv sp rr w nw))) rfl (fun h1379 => ?_) (fun h1379 => ?_)
    · rw [if_pos h1379] at e
      refine mm_T.seg (f' := (79, [some (.ref 50), none, none, some (.int y3), some (.int y4), some (.int y5), some (.int y6), some (.int y7), some (.int y8), some (.int y9), none], [(.int ((y3 >>> (y8 &&& 31)) &&& 1))])) (h' := (107, I, J, mm_rf rv sp rr w nw)) 5 rfl ?_
      refine mm_T.br (c := ((y3 >>> (y8 &&& 31)) &&& 1) = 0) (a := ((96, [some (.ref 50), none, none, some (.int y3), some (.int y4), some (.int y5), some (.int y6), some (.int y7), some (.int y8), some (.int y9), none], []), (107, I, J, mm_rf rv sp rr w nw))) (b := ((82, [some (.ref 50), none, none, some (.int y3), some (.int y4), some (.int y5), some (.int y6), some (.int y7), some (.int y8), some (.int y9), none], []), (107, I, J, mm_rf rv sp rr w nw))) rfl (fun h1380 => ?_) (fun h1380 => ?_)
      · rw [if_pos h1380] at e
        refine mm_T.seg (f' := (66, [some (.ref 50), none, none, some (.int y3), some (.int y4), some (.int y5), some (.int y6), some (.int y7), some (.int y8), some (.int (y9 + 1)), some (.int 0)], [])) (h' := (107, I, J, mm_rf rv sp rr w nw)) 6 rfl ?_
        refine mm_T.mask [true, false, false, true, true, true, true, true, true, true, false] ?_
        exact ih y3 y4 y5 y6 y7 y8 (y9 + 1) I J rv sp rr w nw out e k
      · rw [if_neg h1380] at e
        refine mm_T.seg (f' := (89, [some (.ref 50), none, none, some (.int y3), some (.int y4), some (.int y5), some (.int y6), some (.int y7), some (.int y8), some (.int y9), none], [(.int ((y4 >>> (y9 &&& 31)) &&& 1))])) (h' := (107, I, J, mm_rf rv sp rr w nw)) 5 rfl ?_
        refine mm_T.br (c := ((y4 >>> (y9 &&& 31)) &&& 1) = 0) (a := ((96, [some (.ref 50), none, none, some (.int y3), some (.int y4), some (.int y5), some (.int y6), some (.int y7), some (.int y8), some (.int y9), none], []), (107, I, J, mm_rf rv sp rr w nw))) (b := ((92, [some (.ref 50), none, none, some (.int y3), some (.int y4), some (.int y5), some (.int y6), some (.int y7), some (.int y8), some (.int y9), none], []), (107, I, J, mm_rf rv sp rr w nw))) rfl (fun h1381 => ?_) (fun h1381 => ?_)
        · rw [if_pos h1381] at e
          refine mm_T.seg (f' := (66, [some (.ref 50), none, none, some (.int y3), some (.int y4), some (.int y5), some (.int y6), some (.int y7), some (.int y8), some (.int (y9 + 1)), some (.int 0)], [])) (h' := (107, I, J, mm_rf rv sp rr w nw)) 6 rfl ?_
          refine mm_T.mask [true, false, false, true, true, true, true, true, true, true, false] ?_
          exact ih y3 y4 y5 y6 y7 y8 (y9 + 1) I J rv sp rr w nw out e k
        · rw [if_neg h1381] at e
          refine mm_T.seg (f' := (111, [some (.ref 50), none, none, some (.int y3), some (.int y4), some (.int y5), some (.int y6), some (.int y7), some (.int y8), some (.int y9), some (.int 1)], [(.int y9), (.int y8), (.int y5), (.int y3)])) (h' := (107, I, J, mm_rf rv sp rr w nw)) 9 rfl ?_
          obtain ⟨o1388, eo1388, e⟩ := mm_bind e
          refine mm_T.call (t := 10) (as := [(.int y3), (.int y5), (.int y8), (.int y9)]) (f' := (114, [some (.ref 50), none, none, some (.int y3), some (.int y4), some (.int y5), some (.int y6), some (.int y7), some (.int y8), some (.int y9), some (.int 1)], [])) rfl (tX1_staysBest (d + 1) n y3 y5 y8 y9 I J rv sp rr w nw o1388 eo1388) (fun v h hq => ?_)
          obtain ⟨rfl, rfl⟩ := hq
          refine mm_T.br (c := o1388 = 0) (a := ((170, [some (.ref 50), none, none, some (.int y3), some (.int y4), some (.int y5), some (.int y6), some (.int y7), some (.int y8), some (.int y9), some (.int 1)], []), (107, I, J, mm_rf rv sp rr w nw))) (b := ((117, [some (.ref 50), none, none, some (.int y3), some (.int y4), some (.int y5), some (.int y6), some (.int y7), some (.int y8), some (.int y9), some (.int 1)], []), (107, I, J, mm_rf rv sp rr w nw))) rfl (fun h1389 => ?_) (fun h1389 => ?_)
          · rw [if_pos h1389] at e
            refine mm_T.seg (f' := (66, [some (.ref 50), none, none, some (.int y3), some (.int y4), some (.int y5), some (.int y6), some (.int y7), some (.int y8), some (.int (y9 + 1)), some (.int 1)], [])) (h' := (107, I, J, mm_rf rv sp rr w nw)) 2 rfl ?_
            refine mm_T.mask [true, false, false, true, true, true, true, true, true, true, false] ?_
            exact ih y3 y4 y5 y6 y7 y8 (y9 + 1) I J rv sp rr w nw out e k
          · rw [if_neg h1389] at e
            refine mm_T.seg (f' := (125, [some (.ref 50), none, none, some (.int y3), some (.int y4), some (.int y5), some (.int y6), some (.int y7), some (.int y8), some (.int y9), some (.int 1)], [(.int y8), (.int y9), (.int y6), (.int y4)])) (h' := (107, I, J, mm_rf rv sp rr w nw)) 4 rfl ?_
            obtain ⟨o1390, eo1390, e⟩ := mm_bind e
            refine mm_T.call (t := 10) (as := [(.int y4), (.int y6), (.int y9), (.int y8)]) (f' := (128, [some (.ref 50), none, none, some (.int y3), some (.int y4), some (.int y5), some (.int y6), some (.int y7), some (.int y8), some (.int y9), some (.int 1)], [])) rfl (tX1_staysBest (d + 1) n y4 y6 y9 y8 I J rv sp rr w nw o1390 eo1390) (fun v h hq => ?_)
            obtain ⟨rfl, rfl⟩ := hq
            refine mm_T.br (c := o1390 = 0) (a := ((170, [some (.ref 50), none, none, some (.int y3), some (.int y4), some (.int y5), some (.int y6), some (.int y7), some (.int y8), some (.int y9), some (.int 1)], []), (107, I, J, mm_rf rv sp rr w nw))) (b := ((131, [some (.ref 50), none, none, some (.int y3), some (.int y4), some (.int y5), some (.int y6), some (.int y7), some (.int y8), some (.int y9), some (.int 1)], []), (107, I, J, mm_rf rv sp rr w nw))) rfl (fun h1391 => ?_) (fun h1391 => ?_)
            · rw [if_pos h1391] at e
              refine mm_T.seg (f' := (66, [some (.ref 50), none, none, some (.int y3), some (.int y4), some (.int y5), some (.int y6), some (.int y7), some (.int y8), some (.int (y9 + 1)), some (.int 1)], [])) (h' := (107, I, J, mm_rf rv sp rr w nw)) 2 rfl ?_
              refine mm_T.mask [true, false, false, true, true, true, true, true, true, true, false] ?_
              exact ih y3 y4 y5 y6 y7 y8 (y9 + 1) I J rv sp rr w nw out e k
            · rw [if_neg h1391] at e
              refine mm_T.seg (f' := (134, [some (.ref 50), none, none, some (.int y3), some (.int y4), some (.int y5), some (.int y6), some (.int y7), some (.int y8), some (.int y9), some (.int 1)], [(.int y7), (.ref 50)])) (h' := (107, I, J, mm_rf rv sp rr w nw)) 2 rfl ?_
              refine mm_T.br (c := y7 = 0) (a := ((137, [some (.ref 50), none, none, some (.int y3), some (.int y4), some (.int y5), some (.int y6), some (.int y7), some (.int y8), some (.int y9), some (.int 1)], [(.ref 50)]), (107, I, J, mm_rf rv sp rr w nw))) (b := ((142, [some (.ref 50), none, none, some (.int y3), some (.int y4), some (.int y5), some (.int y6), some (.int y7), some (.int y8), some (.int y9), some (.int 1)], [(.ref 50)]), (107, I, J, mm_rf rv sp rr w nw))) rfl (fun h1392 => ?_) (fun h1392 => ?_)
              · rw [if_pos h1392] at e
                refine mm_T.seg (f' := (152, [some (.ref 50), none, none, some (.int y3), some (.int y4), some (.int y5), some (.int y6), some (.int y7), some (.int y8), some (.int y9), some (.int 1)], [(.int y7), (.ref 50)])) (h' := (107, (mm_up I 50 7 y8), J, mm_rf rv sp rr w nw)) 5 rfl ?_
                refine mm_T.br (c := y7 = 0) (a := ((155, [some (.ref 50), none, none, some (.int y3), some (.int y4), some (.int y5), some (.int y6), some (.int y7), some (.int y8), some (.int y9), some (.int 1)], [(.ref 50)]), (107, (mm_up I 50 7 y8), J, mm_rf rv sp rr w nw))) (b := ((160, [some (.ref 50), none, none, some (.int y3), some (.int y4), some (.int y5), some (.int y6), some (.int y7), some (.int y8), some (.int y9), some (.int 1)], [(.ref 50)]), (107, (mm_up I 50 7 y8), J, mm_rf rv sp rr w nw))) rfl (fun h1393 => ?_) (fun h1393 => ?_)
                · rw [if_pos h1393] at e
                  refine mm_T.seg (f' := (66, [some (.ref 50), none, none, some (.int y3), some (.int y4), some (.int y5), some (.int y6), some (.int (y7 + 1)), some (.int y8), some (.int (y9 + 1)), some (.int 1)], [])) (h' := (107, (mm_up (mm_up I 50 7 y8) 50 8 y9), J, mm_rf rv sp rr w nw)) 6 rfl ?_
                  refine mm_T.mask [true, false, false, true, true, true, true, true, true, true, false] ?_
                  exact ih y3 y4 y5 y6 (y7 + 1) y8 (y9 + 1) (mm_up (mm_up I 50 7 y8) 50 8 y9) J rv sp rr w nw out e k
                · rw [if_neg h1393] at e
                  refine mm_T.seg (f' := (66, [some (.ref 50), none, none, some (.int y3), some (.int y4), some (.int y5), some (.int y6), some (.int (y7 + 1)), some (.int y8), some (.int (y9 + 1)), some (.int 1)], [])) (h' := (107, (mm_up (mm_up I 50 7 y8) 50 8 (I 50 8)), J, mm_rf rv sp rr w nw)) 6 rfl ?_
                  refine mm_T.mask [true, false, false, true, true, true, true, true, true, true, false] ?_
                  exact ih y3 y4 y5 y6 (y7 + 1) y8 (y9 + 1) (mm_up (mm_up I 50 7 y8) 50 8 (I 50 8)) J rv sp rr w nw out e k
              · rw [if_neg h1392] at e
                refine mm_T.seg (f' := (152, [some (.ref 50), none, none, some (.int y3), some (.int y4), some (.int y5), some (.int y6), some (.int y7), some (.int y8), some (.int y9), some (.int 1)], [(.int y7), (.ref 50)])) (h' := (107, (mm_up I 50 7 (I 50 7)), J, mm_rf rv sp rr w nw)) 5 rfl ?_
                refine mm_T.br (c := y7 = 0) (a := ((155, [some (.ref 50), none, none, some (.int y3), some (.int y4), some (.int y5), some (.int y6), some (.int y7), some (.int y8), some (.int y9), some (.int 1)], [(.ref 50)]), (107, (mm_up I 50 7 (I 50 7)), J, mm_rf rv sp rr w nw))) (b := ((160, [some (.ref 50), none, none, some (.int y3), some (.int y4), some (.int y5), some (.int y6), some (.int y7), some (.int y8), some (.int y9), some (.int 1)], [(.ref 50)]), (107, (mm_up I 50 7 (I 50 7)), J, mm_rf rv sp rr w nw))) rfl (fun h1394 => ?_) (fun h1394 => ?_)
                · rw [if_pos h1394] at e
                  refine mm_T.seg (f' := (66, [some (.ref 50), none, none, some (.int y3), some (.int y4), some (.int y5), some (.int y6), some (.int (y7 + 1)), some (.int y8), some (.int (y9 + 1)), some (.int 1)], [])) (h' := (107, (mm_up (mm_up I 50 7 (I 50 7)) 50 8 y9), J, mm_rf rv sp rr w nw)) 6 rfl ?_
                  refine mm_T.mask [true, false, false, true, true, true, true, true, true, true, false] ?_
                  exact ih y3 y4 y5 y6 (y7 + 1) y8 (y9 + 1) (mm_up (mm_up I 50 7 (I 50 7)) 50 8 y9) J rv sp rr w nw out e k
                · rw [if_neg h1394] at e
                  refine mm_T.seg (f' := (66, [some (.ref 50), none, none, some (.int y3), some (.int y4), some (.int y5), some (.int y6), some (.int (y7 + 1)), some (.int y8), some (.int (y9 + 1)), some (.int 1)], [])) (h' := (107, (mm_up (mm_up I 50 7 (I 50 7)) 50 8 (I 50 8)), J, mm_rf rv sp rr w nw)) 6 rfl ?_
                  refine mm_T.mask [true, false, false, true, true, true, true, true, true, true, false] ?_
                  exact ih y3 y4 y5 y6 (y7 + 1) y8 (y9 + 1) (mm_up (mm_up I 50 7 (I 50 7)) 50 8 (I 50 8)) J rv sp rr w nw out e k
    · rw [if_neg h1379] at e
      cases e
      refine mm_T.mask [true, false, false, true, true, true, true, true, true, false, false] ?_
      exact k
set_option maxRecDepth 100000 in
set_option maxHeartbeats 4000000 in
theorem tlX1_countRests_L56 (d : Nat) (Q : Option Value → mm_H → Prop) : ∀ (n : Nat) (y3 : Int32) (y4 : Int32) (y5 : Int32) (y6 : Int32) (y7 : Int32) (y8 : Int32) (I : Nat → Nat → Int32) (J : Nat → Nat → Int64) (rv sp rr w nw : Nat), ∀ (out : Int32 × (Nat → Nat → Int32)), fX1_countRests_L56 n y3 y4 y5 y6 y7 y8 I = some out → mm_T none (d + 4) 9 (182, [none, none, none, none, none, none, none, some (.int out.1), none, none, none], []) (107, out.2, J, mm_rf rv sp rr w nw) Q → mm_T none (d + 4) 9 (56, [some (.ref 50), none, none, some (.int y3), some (.int y4), some (.int y5), some (.int y6), some (.int y7), some (.int y8), none, none], []) (107, I, J, mm_rf rv sp rr w nw) Q := by
  intro n
  induction n with
  | zero =>
    intro y3 y4 y5 y6 y7 y8 I J rv sp rr w nw out e k
    rw [fX1_countRests_L56] at e; cases e
  | succ n ih =>
    intro y3 y4 y5 y6 y7 y8 I J rv sp rr w nw out e k
    rw [fX1_countRests_L56] at e
    refine mm_T.seg (f' := (60, [some (.ref 50), none, none, some (.int y3), some (.int y4), some (.int y5), some (.int y6), some (.int y7), some (.int y8), none, none], [(.int 8), (.int y8)])) (h' := (107, I, J, mm_rf rv sp rr w nw)) 2 rfl ?_
    refine mm_T.br (c := y8 < 8) (a := ((63, [some (.ref 50), none, none, some (.int y3), some (.int y4), some (.int y5), some (.int y6), some (.int y7), some (.int y8), none, none], []), (107, I, J, mm_rf rv sp rr w nw))) (b := ((182, [some (.ref 50), none, none, some (.int y3), some (.int y4), some (.int y5), some (.int y6), some (.int y7), some (.int y8), none, none], []), (107, I, J, mm_rf rv sp rr w nw))) rfl (fun h1378 => ?_) (fun h1378 => ?_)
    · rw [if_pos h1378] at e
      refine mm_T.seg (f' := (66, [some (.ref 50), none, none, some (.int y3), some (.int y4), some (.int y5), some (.int y6), some (.int y7), some (.int y8), some (.int 0), none], [])) (h' := (107, I, J, mm_rf rv sp rr w nw)) 2 rfl ?_
      refine mm_T.mask [true, false, false, true, true, true, true, true, true, true, false] ?_
      obtain ⟨o1395, eo1395, e⟩ := mm_bind e
      refine tlX1_countRests_L66 d _ n y3 y4 y5 y6 y7 y8 0 I J rv sp rr w nw o1395 eo1395 ?_
      refine mm_T.seg (f' := (56, [some (.ref 50), none, none, some (.int y3), some (.int y4), some (.int y5), some (.int y6), some (.int o1395.1), some (.int (y8 + 1)), none, none], [])) (h' := (107, o1395.2, J, mm_rf rv sp rr w nw)) 2 rfl ?_
      refine mm_T.mask [true, false, false, true, true, true, true, true, true, false, false] ?_
      exact ih y3 y4 y5 y6 o1395.1 (y8 + 1) o1395.2 J rv sp rr w nw out e k
    · rw [if_neg h1378] at e
      cases e
      refine mm_T.mask [false, false, false, false, false, false, false, true, false, false, false] ?_
      exact k
set_option maxRecDepth 100000 in
set_option maxHeartbeats 4000000 in
theorem tX1_countRests (d n : Nat) (x1 : Int32) (x2 : Int32) (I : Nat → Nat → Int32) (J : Nat → Nat → Int64) (rv sp rr w nw : Nat) (hrv : rv = 3 ∨ rv = 19) (out : Int32 × (Nat → Nat → Int32)) (e : fX1_countRests n x1 x2 I rv = some out) : mm_T none (d + 4) 9 (mm_ent 9 [(.ref 50), (.int x1), (.int x2)]) (107, I, J, mm_rf rv sp rr w nw) (fun v h => v = some (.int out.1) ∧ h = (107, out.2, J, mm_rf rv sp rr w nw)) := by
  rcases hrv with rfl | rfl
  · unfold fX1_countRests at e
    refine mm_T.seg (f' := (4, [some (.ref 50), some (.int x1), some (.int x2), none, none, none, none, none, none, none, none], [(.ref 37)])) (h' := (107, I, J, mm_rf 3 sp rr w nw)) 2 rfl ?_
    refine mm_T.seg (f' := (5, [some (.ref 50), some (.int x1), some (.int x2), none, none, none, none, none, none, none, none], [(.int x1), (.ref 37)])) (h' := (107, I, J, mm_rf 3 sp rr w nw)) 1 rfl ?_
    obtain ⟨o1374, eo1374, e⟩ := mm_bind e
    refine mm_T.call (t := 85) (as := [(.ref 37), (.int x1)]) (f' := (8, [some (.ref 50), some (.int x1), some (.int x2), none, none, none, none, none, none, none, none], [])) rfl (tX6_landingBits (d + 0) n x1 I J 3 sp rr w nw (Or.inl rfl) o1374 eo1374) (fun v h hq => ?_)
    obtain ⟨rfl, rfl⟩ := hq
    refine mm_T.seg (f' := (13, [some (.ref 50), some (.int x1), some (.int x2), some (.int o1374), none, none, none, none, none, none, none], [(.ref 37)])) (h' := (107, I, J, mm_rf 3 sp rr w nw)) 3 rfl ?_
    refine mm_T.seg (f' := (14, [some (.ref 50), some (.int x1), some (.int x2), some (.int o1374), none, none, none, none, none, none, none], [(.int x2), (.ref 37)])) (h' := (107, I, J, mm_rf 3 sp rr w nw)) 1 rfl ?_
    obtain ⟨o1375, eo1375, e⟩ := mm_bind e
    refine mm_T.call (t := 85) (as := [(.ref 37), (.int x2)]) (f' := (17, [some (.ref 50), some (.int x1), some (.int x2), some (.int o1374), none, none, none, none, none, none, none], [])) rfl (tX6_landingBits (d + 0) n x2 I J 3 sp rr w nw (Or.inl rfl) o1375 eo1375) (fun v h hq => ?_)
    obtain ⟨rfl, rfl⟩ := hq
    refine mm_T.seg (f' := (20, [some (.ref 50), some (.int x1), some (.int x2), some (.int o1374), some (.int o1375), none, none, none, none, none, none], [(.int o1374)])) (h' := (107, I, J, mm_rf 3 sp rr w nw)) 2 rfl ?_
    refine mm_T.br (c := o1374 = 0) (a := ((28, [some (.ref 50), some (.int x1), some (.int x2), some (.int o1374), some (.int o1375), none, none, none, none, none, none], []), (107, I, J, mm_rf 3 sp rr w nw))) (b := ((23, [some (.ref 50), some (.int x1), some (.int x2), some (.int o1374), some (.int o1375), none, none, none, none, none, none], []), (107, I, J, mm_rf 3 sp rr w nw))) rfl (fun h1376 => ?_) (fun h1376 => ?_)
    · rw [if_pos h1376] at e
      refine mm_T.seg (f' := (29, [some (.ref 50), some (.int x1), some (.int x2), some (.int o1374), some (.int o1375), none, none, none, none, none, none], [(.int (-1))])) (h' := (107, I, J, mm_rf 3 sp rr w nw)) 1 rfl ?_
      cases e
      exact mm_T.ret rfl ⟨rfl, rfl⟩
    · rw [if_neg h1376] at e
      refine mm_T.seg (f' := (25, [some (.ref 50), some (.int x1), some (.int x2), some (.int o1374), some (.int o1375), none, none, none, none, none, none], [(.int o1375)])) (h' := (107, I, J, mm_rf 3 sp rr w nw)) 1 rfl ?_
      refine mm_T.br (c := o1375 = 0) (a := ((28, [some (.ref 50), some (.int x1), some (.int x2), some (.int o1374), some (.int o1375), none, none, none, none, none, none], []), (107, I, J, mm_rf 3 sp rr w nw))) (b := ((30, [some (.ref 50), some (.int x1), some (.int x2), some (.int o1374), some (.int o1375), none, none, none, none, none, none], []), (107, I, J, mm_rf 3 sp rr w nw))) rfl (fun h1377 => ?_) (fun h1377 => ?_)
      · rw [if_pos h1377] at e
        refine mm_T.seg (f' := (29, [some (.ref 50), some (.int x1), some (.int x2), some (.int o1374), some (.int o1375), none, none, none, none, none, none], [(.int (-1))])) (h' := (107, I, J, mm_rf 3 sp rr w nw)) 1 rfl ?_
        cases e
        exact mm_T.ret rfl ⟨rfl, rfl⟩
      · rw [if_neg h1377] at e
        refine mm_T.seg (f' := (34, [some (.ref 50), some (.int x1), some (.int x2), some (.int o1374), some (.int o1375), none, none, none, none, none, none], [(.ref 18)])) (h' := (107, I, J, mm_rf 3 sp rr w nw)) 2 rfl ?_
        refine mm_T.seg (f' := (35, [some (.ref 50), some (.int x1), some (.int x2), some (.int o1374), some (.int o1375), none, none, none, none, none, none], [(.int x1), (.ref 18)])) (h' := (107, I, J, mm_rf 3 sp rr w nw)) 1 rfl ?_
        obtain ⟨g198, hg198⟩ : ∃ z, fX7_columnOf x1 I = z := ⟨_, rfl⟩
        try rw [hg198] at e
        refine mm_T.call (t := 105) (as := [(.ref 18), (.int x1)]) (f' := (38, [some (.ref 50), some (.int x1), some (.int x2), some (.int o1374), some (.int o1375), none, none, none, none, none, none], [])) rfl (tX7_columnOf (d + 1) x1 I J 3 sp rr w nw g198 hg198) (fun v h hq => ?_)
        obtain ⟨rfl, rfl⟩ := hq
        refine mm_T.seg (f' := (44, [some (.ref 50), some (.int x1), some (.int x2), some (.int o1374), some (.int o1375), some (.int g198), none, none, none, none, none], [(.ref 18)])) (h' := (107, I, J, mm_rf 3 sp rr w nw)) 3 rfl ?_
        refine mm_T.seg (f' := (45, [some (.ref 50), some (.int x1), some (.int x2), some (.int o1374), some (.int o1375), some (.int g198), none, none, none, none, none], [(.int x2), (.ref 18)])) (h' := (107, I, J, mm_rf 3 sp rr w nw)) 1 rfl ?_
        obtain ⟨g199, hg199⟩ : ∃ z, fX7_columnOf x2 I = z := ⟨_, rfl⟩
        try rw [hg199] at e
        refine mm_T.call (t := 105) (as := [(.ref 18), (.int x2)]) (f' := (48, [some (.ref 50), some (.int x1), some (.int x2), some (.int o1374), some (.int o1375), some (.int g198), none, none, none, none, none], [])) rfl (tX7_columnOf (d + 1) x2 I J 3 sp rr w nw g199 hg199) (fun v h hq => ?_)
        obtain ⟨rfl, rfl⟩ := hq
        refine mm_T.seg (f' := (56, [some (.ref 50), some (.int x1), some (.int x2), some (.int o1374), some (.int o1375), some (.int g198), some (.int g199), some (.int 0), some (.int 0), none, none], [])) (h' := (107, I, J, mm_rf 3 sp rr w nw)) 5 rfl ?_
        refine mm_T.mask [true, false, false, true, true, true, true, true, true, false, false] ?_
        obtain ⟨o1396, eo1396, e⟩ := mm_bind e
        refine tlX1_countRests_L56 d _ n o1374 o1375 g198 g199 0 0 I J 3 sp rr w nw o1396 eo1396 ?_
        refine mm_T.seg (f' := (184, [none, none, none, none, none, none, none, some (.int o1396.1), none, none, none], [(.int o1396.1)])) (h' := (107, o1396.2, J, mm_rf 3 sp rr w nw)) 1 rfl ?_
        cases e
        exact mm_T.ret rfl ⟨rfl, rfl⟩
  · unfold fX1_countRests at e
    refine mm_T.seg (f' := (4, [some (.ref 50), some (.int x1), some (.int x2), none, none, none, none, none, none, none, none], [(.ref 37)])) (h' := (107, I, J, mm_rf 19 sp rr w nw)) 2 rfl ?_
    refine mm_T.seg (f' := (5, [some (.ref 50), some (.int x1), some (.int x2), none, none, none, none, none, none, none, none], [(.int x1), (.ref 37)])) (h' := (107, I, J, mm_rf 19 sp rr w nw)) 1 rfl ?_
    obtain ⟨o1374, eo1374, e⟩ := mm_bind e
    refine mm_T.call (t := 85) (as := [(.ref 37), (.int x1)]) (f' := (8, [some (.ref 50), some (.int x1), some (.int x2), none, none, none, none, none, none, none, none], [])) rfl (tX6_landingBits (d + 0) n x1 I J 19 sp rr w nw (Or.inr rfl) o1374 eo1374) (fun v h hq => ?_)
    obtain ⟨rfl, rfl⟩ := hq
    refine mm_T.seg (f' := (13, [some (.ref 50), some (.int x1), some (.int x2), some (.int o1374), none, none, none, none, none, none, none], [(.ref 37)])) (h' := (107, I, J, mm_rf 19 sp rr w nw)) 3 rfl ?_
    refine mm_T.seg (f' := (14, [some (.ref 50), some (.int x1), some (.int x2), some (.int o1374), none, none, none, none, none, none, none], [(.int x2), (.ref 37)])) (h' := (107, I, J, mm_rf 19 sp rr w nw)) 1 rfl ?_
    obtain ⟨o1375, eo1375, e⟩ := mm_bind e
    refine mm_T.call (t := 85) (as := [(.ref 37), (.int x2)]) (f' := (17, [some (.ref 50), some (.int x1), some (.int x2), some (.int o1374), none, none, none, none, none, none, none], [])) rfl (tX6_landingBits (d + 0) n x2 I J 19 sp rr w nw (Or.inr rfl) o1375 eo1375) (fun v h hq => ?_)
    obtain ⟨rfl, rfl⟩ := hq
    refine mm_T.seg (f' := (20, [some (.ref 50), some (.int x1), some (.int x2), some (.int o1374), some (.int o1375), none, none, none, none, none, none], [(.int o1374)])) (h' := (107, I, J, mm_rf 19 sp rr w nw)) 2 rfl ?_
    refine mm_T.br (c := o1374 = 0) (a := ((28, [some (.ref 50), some (.int x1), some (.int x2), some (.int o1374), some (.int o1375), none, none, none, none, none, none], []), (107, I, J, mm_rf 19 sp rr w nw))) (b := ((23, [some (.ref 50), some (.int x1), some (.int x2), some (.int o1374), some (.int o1375), none, none, none, none, none, none], []), (107, I, J, mm_rf 19 sp rr w nw))) rfl (fun h1376 => ?_) (fun h1376 => ?_)
    · rw [if_pos h1376] at e
      refine mm_T.seg (f' := (29, [some (.ref 50), some (.int x1), some (.int x2), some (.int o1374), some (.int o1375), none, none, none, none, none, none], [(.int (-1))])) (h' := (107, I, J, mm_rf 19 sp rr w nw)) 1 rfl ?_
      cases e
      exact mm_T.ret rfl ⟨rfl, rfl⟩
    · rw [if_neg h1376] at e
      refine mm_T.seg (f' := (25, [some (.ref 50), some (.int x1), some (.int x2), some (.int o1374), some (.int o1375), none, none, none, none, none, none], [(.int o1375)])) (h' := (107, I, J, mm_rf 19 sp rr w nw)) 1 rfl ?_
      refine mm_T.br (c := o1375 = 0) (a := ((28, [some (.ref 50), some (.int x1), some (.int x2), some (.int o1374), some (.int o1375), none, none, none, none, none, none], []), (107, I, J, mm_rf 19 sp rr w nw))) (b := ((30, [some (.ref 50), some (.int x1), some (.int x2), some (.int o1374), some (.int o1375), none, none, none, none, none, none], []), (107, I, J, mm_rf 19 sp rr w nw))) rfl (fun h1377 => ?_) (fun h1377 => ?_)
      · rw [if_pos h1377] at e
        refine mm_T.seg (f' := (29, [some (.ref 50), some (.int x1), some (.int x2), some (.int o1374), some (.int o1375), none, none, none, none, none, none], [(.int (-1))])) (h' := (107, I, J, mm_rf 19 sp rr w nw)) 1 rfl ?_
        cases e
        exact mm_T.ret rfl ⟨rfl, rfl⟩
      · rw [if_neg h1377] at e
        refine mm_T.seg (f' := (34, [some (.ref 50), some (.int x1), some (.int x2), some (.int o1374), some (.int o1375), none, none, none, none, none, none], [(.ref 18)])) (h' := (107, I, J, mm_rf 19 sp rr w nw)) 2 rfl ?_
        refine mm_T.seg (f' := (35, [some (.ref 50), some (.int x1), some (.int x2), some (.int o1374), some (.int o1375), none, none, none, none, none, none], [(.int x1), (.ref 18)])) (h' := (107, I, J, mm_rf 19 sp rr w nw)) 1 rfl ?_
        obtain ⟨g198, hg198⟩ : ∃ z, fX7_columnOf x1 I = z := ⟨_, rfl⟩
        try rw [hg198] at e
        refine mm_T.call (t := 105) (as := [(.ref 18), (.int x1)]) (f' := (38, [some (.ref 50), some (.int x1), some (.int x2), some (.int o1374), some (.int o1375), none, none, none, none, none, none], [])) rfl (tX7_columnOf (d + 1) x1 I J 19 sp rr w nw g198 hg198) (fun v h hq => ?_)
        obtain ⟨rfl, rfl⟩ := hq
        refine mm_T.seg (f' := (44, [some (.ref 50), some (.int x1), some (.int x2), some (.int o1374), some (.int o1375), some (.int g198), none, none, none, none, none], [(.ref 18)])) (h' := (107, I, J, mm_rf 19 sp rr w nw)) 3 rfl ?_
        refine mm_T.seg (f' := (45, [some (.ref 50), some (.int x1), some (.int x2), some (.int o1374), some (.int o1375), some (.int g198), none, none, none, none, none], [(.int x2), (.ref 18)])) (h' := (107, I, J, mm_rf 19 sp rr w nw)) 1 rfl ?_
        obtain ⟨g199, hg199⟩ : ∃ z, fX7_columnOf x2 I = z := ⟨_, rfl⟩
        try rw [hg199] at e
        refine mm_T.call (t := 105) (as := [(.ref 18), (.int x2)]) (f' := (48, [some (.ref 50), some (.int x1), some (.int x2), some (.int o1374), some (.int o1375), some (.int g198), none, none, none, none, none], [])) rfl (tX7_columnOf (d + 1) x2 I J 19 sp rr w nw g199 hg199) (fun v h hq => ?_)
        obtain ⟨rfl, rfl⟩ := hq
        refine mm_T.seg (f' := (56, [some (.ref 50), some (.int x1), some (.int x2), some (.int o1374), some (.int o1375), some (.int g198), some (.int g199), some (.int 0), some (.int 0), none, none], [])) (h' := (107, I, J, mm_rf 19 sp rr w nw)) 5 rfl ?_
        refine mm_T.mask [true, false, false, true, true, true, true, true, true, false, false] ?_
        obtain ⟨o1396, eo1396, e⟩ := mm_bind e
        refine tlX1_countRests_L56 d _ n o1374 o1375 g198 g199 0 0 I J 19 sp rr w nw o1396 eo1396 ?_
        refine mm_T.seg (f' := (184, [none, none, none, none, none, none, none, some (.int o1396.1), none, none, none], [(.int o1396.1)])) (h' := (107, o1396.2, J, mm_rf 19 sp rr w nw)) 1 rfl ?_
        cases e
        exact mm_T.ret rfl ⟨rfl, rfl⟩
set_option maxRecDepth 100000 in
set_option maxHeartbeats 4000000 in
theorem tlX2_keep_L2 (d : Nat) (Q : Option Value → mm_H → Prop) : ∀ (n : Nat) (y1 : Int32) (y2 : Int32) (I : Nat → Nat → Int32) (J : Nat → Nat → Int64) (rv sp rr w nw : Nat), ∀ (out : (Nat → Nat → Int32)), fX2_keep_L2 n y1 y2 I = some out → mm_T none (d + 1) 13 (38, [none, none, none], []) (107, out, J, mm_rf rv sp rr w nw) Q → mm_T none (d + 1) 13 (2, [some (.ref 33), some (.int y1), some (.int y2)], []) (107, I, J, mm_rf rv sp rr w nw) Q := by
  intro n
  induction n with
  | zero =>
    intro y1 y2 I J rv sp rr w nw out e k
    rw [fX2_keep_L2] at e; cases e
  | succ n ih =>
    intro y1 y2 I J rv sp rr w nw out e k
    rw [fX2_keep_L2] at e
    refine mm_T.seg (f' := (5, [some (.ref 33), some (.int y1), some (.int y2)], [(.int 28), (.int y2)])) (h' := (107, I, J, mm_rf rv sp rr w nw)) 2 rfl ?_
    refine mm_T.br (c := y2 < 28) (a := ((8, [some (.ref 33), some (.int y1), some (.int y2)], []), (107, I, J, mm_rf rv sp rr w nw))) (b := ((38, [some (.ref 33), some (.int y1), some (.int y2)], []), (107, I, J, mm_rf rv sp rr w nw))) rfl (fun h1397 => ?_) (fun h1397 => ?_)
    · rw [if_pos h1397] at e
      refine mm_T.seg (f' := (12, [some (.ref 33), some (.int y1), some (.int y2)], [(.ref 34)])) (h' := (107, I, J, mm_rf rv sp rr w nw)) 2 rfl ?_
      refine mm_T.seg (f' := (22, [some (.ref 33), some (.int y1), some (.int y2)], [(.ref 18), (.int ((y1 * 28) + y2)), (.ref 34)])) (h' := (107, I, J, mm_rf rv sp rr w nw)) 7 rfl ?_
      refine mm_T.seg (f' := (26, [some (.ref 33), some (.int y1), some (.int y2)], [(.int y2), (.ref 32), (.int ((y1 * 28) + y2)), (.ref 34)])) (h' := (107, I, J, mm_rf rv sp rr w nw)) 2 rfl ?_
      refine mm_T.call (t := 204) (as := [(.ref 32), (.int y2)]) (f' := (29, [some (.ref 33), some (.int y1), some (.int y2)], [(.int ((y1 * 28) + y2)), (.ref 34)])) rfl (t_pick _ 32 28 y2 I J (mm_rf rv sp rr w nw) rfl rfl) (fun v h hq => ?_)
      obtain ⟨rfl, rfl⟩ := hq
      refine mm_T.call (t := 205) (as := [(.ref 34), (.int ((y1 * 28) + y2)), (.int (mf_pick I 32 28 y2))]) (f' := (32, [some (.ref 33), some (.int y1), some (.int y2)], [])) rfl (t_put _ 34 1232 ((y1 * 28) + y2) (mf_pick I 32 28 y2) I J (mm_rf rv sp rr w nw) rfl rfl) (fun v h hq => ?_)
      obtain ⟨rfl, rfl⟩ := hq
      refine mm_T.seg (f' := (2, [some (.ref 33), some (.int y1), some (.int (y2 + 1))], [])) (h' := (107, (mf_put I 34 1232 ((y1 * 28) + y2) (mf_pick I 32 28 y2)), J, mm_rf rv sp rr w nw)) 2 rfl ?_
      refine mm_T.mask [true, true, true] ?_
      exact ih y1 (y2 + 1) (mf_put I 34 1232 ((y1 * 28) + y2) (mf_pick I 32 28 y2)) J rv sp rr w nw out e k
    · rw [if_neg h1397] at e
      cases e
      refine mm_T.mask [false, false, false] ?_
      exact k
set_option maxRecDepth 100000 in
set_option maxHeartbeats 4000000 in
theorem tX2_keep (d n : Nat) (x1 : Int32) (I : Nat → Nat → Int32) (J : Nat → Nat → Int64) (rv sp rr w nw : Nat) (out : (Nat → Nat → Int32)) (e : fX2_keep n x1 I = some out) : mm_T none (d + 1) 13 (mm_ent 13 [(.ref 33), (.int x1)]) (107, I, J, mm_rf rv sp rr w nw) (fun v h => v = none ∧ h = (107, out, J, mm_rf rv sp rr w nw)) := by
  unfold fX2_keep at e
  refine mm_T.seg (f' := (2, [some (.ref 33), some (.int x1), some (.int 0)], [])) (h' := (107, I, J, mm_rf rv sp rr w nw)) 2 rfl ?_
  refine mm_T.mask [true, true, true] ?_
  obtain ⟨o1398, eo1398, e⟩ := mm_bind e
  refine tlX2_keep_L2 d _ n x1 0 I J rv sp rr w nw o1398 eo1398 ?_
  cases e
  exact mm_T.ret rfl ⟨rfl, rfl⟩
set_option maxRecDepth 100000 in
set_option maxHeartbeats 4000000 in
theorem tlX2_bring_L2 (d : Nat) (Q : Option Value → mm_H → Prop) : ∀ (n : Nat) (y1 : Int32) (y2 : Int32) (I : Nat → Nat → Int32) (J : Nat → Nat → Int64) (rv sp rr w nw : Nat), ∀ (out : (Nat → Nat → Int32)), fX2_bring_L2 n y1 y2 I = some out → mm_T none (d + 1) 14 (38, [none, none, none], []) (107, out, J, mm_rf rv sp rr w nw) Q → mm_T none (d + 1) 14 (2, [some (.ref 33), some (.int y1), some (.int y2)], []) (107, I, J, mm_rf rv sp rr w nw) Q := by
  intro n
  induction n with
  | zero =>
    intro y1 y2 I J rv sp rr w nw out e k
    rw [fX2_bring_L2] at e; cases e
  | succ n ih =>
    intro y1 y2 I J rv sp rr w nw out e k
    rw [fX2_bring_L2] at e
    refine mm_T.seg (f' := (5, [some (.ref 33), some (.int y1), some (.int y2)], [(.int 28), (.int y2)])) (h' := (107, I, J, mm_rf rv sp rr w nw)) 2 rfl ?_
    refine mm_T.br (c := y2 < 28) (a := ((8, [some (.ref 33), some (.int y1), some (.int y2)], []), (107, I, J, mm_rf rv sp rr w nw))) (b := ((38, [some (.ref 33), some (.int y1), some (.int y2)], []), (107, I, J, mm_rf rv sp rr w nw))) rfl (fun h1399 => ?_) (fun h1399 => ?_)
    · rw [if_pos h1399] at e
      refine mm_T.seg (f' := (12, [some (.ref 33), some (.int y1), some (.int y2)], [(.ref 18)])) (h' := (107, I, J, mm_rf rv sp rr w nw)) 2 rfl ?_
      refine mm_T.seg (f' := (20, [some (.ref 33), some (.int y1), some (.int y2)], [(.ref 34), (.int y2), (.ref 32)])) (h' := (107, I, J, mm_rf rv sp rr w nw)) 4 rfl ?_
      refine mm_T.seg (f' := (26, [some (.ref 33), some (.int y1), some (.int y2)], [(.int ((y1 * 28) + y2)), (.ref 34), (.int y2), (.ref 32)])) (h' := (107, I, J, mm_rf rv sp rr w nw)) 5 rfl ?_
      refine mm_T.call (t := 204) (as := [(.ref 34), (.int ((y1 * 28) + y2))]) (f' := (29, [some (.ref 33), some (.int y1), some (.int y2)], [(.int y2), (.ref 32)])) rfl (t_pick _ 34 1232 ((y1 * 28) + y2) I J (mm_rf rv sp rr w nw) rfl rfl) (fun v h hq => ?_)
      obtain ⟨rfl, rfl⟩ := hq
      refine mm_T.call (t := 205) (as := [(.ref 32), (.int y2), (.int (mf_pick I 34 1232 ((y1 * 28) + y2)))]) (f' := (32, [some (.ref 33), some (.int y1), some (.int y2)], [])) rfl (t_put _ 32 28 y2 (mf_pick I 34 1232 ((y1 * 28) + y2)) I J (mm_rf rv sp rr w nw) rfl rfl) (fun v h hq => ?_)
      obtain ⟨rfl, rfl⟩ := hq
      refine mm_T.seg (f' := (2, [some (.ref 33), some (.int y1), some (.int (y2 + 1))], [])) (h' := (107, (mf_put I 32 28 y2 (mf_pick I 34 1232 ((y1 * 28) + y2))), J, mm_rf rv sp rr w nw)) 2 rfl ?_
      refine mm_T.mask [true, true, true] ?_
      exact ih y1 (y2 + 1) (mf_put I 32 28 y2 (mf_pick I 34 1232 ((y1 * 28) + y2))) J rv sp rr w nw out e k
    · rw [if_neg h1399] at e
      cases e
      refine mm_T.mask [false, false, false] ?_
      exact k
set_option maxRecDepth 100000 in
set_option maxHeartbeats 4000000 in
theorem tX2_bring (d n : Nat) (x1 : Int32) (I : Nat → Nat → Int32) (J : Nat → Nat → Int64) (rv sp rr w nw : Nat) (out : (Nat → Nat → Int32)) (e : fX2_bring n x1 I = some out) : mm_T none (d + 1) 14 (mm_ent 14 [(.ref 33), (.int x1)]) (107, I, J, mm_rf rv sp rr w nw) (fun v h => v = none ∧ h = (107, out, J, mm_rf rv sp rr w nw)) := by
  unfold fX2_bring at e
  refine mm_T.seg (f' := (2, [some (.ref 33), some (.int x1), some (.int 0)], [])) (h' := (107, I, J, mm_rf rv sp rr w nw)) 2 rfl ?_
  refine mm_T.mask [true, true, true] ?_
  obtain ⟨o1400, eo1400, e⟩ := mm_bind e
  refine tlX2_bring_L2 d _ n x1 0 I J rv sp rr w nw o1400 eo1400 ?_
  cases e
  exact mm_T.ret rfl ⟨rfl, rfl⟩
set_option maxRecDepth 100000 in
set_option maxHeartbeats 4000000 in
theorem tX2_forgetActs (d : Nat) (I : Nat → Nat → Int32) (J : Nat → Nat → Int64) (rv sp rr w nw : Nat) (out : (Nat → Nat → Int32)) (e : fX2_forgetActs I = out) : mm_T none (d + 0) 15 (mm_ent 15 [(.ref 33)]) (107, I, J, mm_rf rv sp rr w nw) (fun v h => v = none ∧ h = (107, out, J, mm_rf rv sp rr w nw)) := by
  unfold fX2_forgetActs at e
  refine mm_T.seg (f' := (15, [some (.ref 33)], [])) (h' := (107, (mm_up (mm_up (mm_up I 33 3 0) 33 4 0) 33 5 0), J, mm_rf rv sp rr w nw)) 9 rfl ?_
  cases e
  exact mm_T.ret rfl ⟨rfl, rfl⟩
set_option maxRecDepth 100000 in
set_option maxHeartbeats 4000000 in
theorem tX2_beginAct (d n : Nat) (I : Nat → Nat → Int32) (J : Nat → Nat → Int64) (rv sp rr w nw : Nat) (out : (Nat → Nat → Int32)) (e : fX2_beginAct n I = some out) : mm_T none (d + 2) 16 (mm_ent 16 [(.ref 33)]) (107, I, J, mm_rf rv sp rr w nw) (fun v h => v = none ∧ h = (107, out, J, mm_rf rv sp rr w nw)) := by
  unfold fX2_beginAct at e
  refine mm_T.seg (f' := (5, [some (.ref 33)], [(.int (I 33 3)), (.ref 33)])) (h' := (107, I, J, mm_rf rv sp rr w nw)) 3 rfl ?_
  obtain ⟨o1401, eo1401, e⟩ := mm_bind e
  refine mm_T.call (t := 13) (as := [(.ref 33), (.int (I 33 3))]) (f' := (8, [some (.ref 33)], [])) rfl (tX2_keep (d + 0) n (I 33 3) I J rv sp rr w nw o1401 eo1401) (fun v h hq => ?_)
  obtain ⟨rfl, rfl⟩ := hq
  refine mm_T.seg (f' := (30, [some (.ref 33)], [(.int ((o1401 33 4) + 1)), (.int 40), (.ref 33)])) (h' := (107, (mm_up o1401 33 3 (((o1401 33 3) + 1) - ((o1401 33 3) + 1) / 41 * 41)), J, mm_rf rv sp rr w nw)) 14 rfl ?_
  obtain ⟨g204, hg204⟩ : ∃ z, fJ9_min 40 ((o1401 33 4) + 1) = z := ⟨_, rfl⟩
  try rw [hg204] at e
  refine mm_T.call (t := 348) (as := [(.int 40), (.int ((o1401 33 4) + 1))]) (f' := (33, [some (.ref 33)], [(.ref 33)])) rfl (tJ9_min (d + 1) 40 ((o1401 33 4) + 1) (mm_up o1401 33 3 (((o1401 33 3) + 1) - ((o1401 33 3) + 1) / 41 * 41)) J rv sp rr w nw g204 hg204) (fun v h hq => ?_)
  obtain ⟨rfl, rfl⟩ := hq
  refine mm_T.seg (f' := (41, [some (.ref 33)], [])) (h' := (107, (mm_up (mm_up (mm_up o1401 33 3 (((o1401 33 3) + 1) - ((o1401 33 3) + 1) / 41 * 41)) 33 4 g204) 33 5 0), J, mm_rf rv sp rr w nw)) 4 rfl ?_
  cases e
  exact mm_T.ret rfl ⟨rfl, rfl⟩
set_option maxRecDepth 100000 in
set_option maxHeartbeats 4000000 in
theorem tX2_takeBack (d n : Nat) (I : Nat → Nat → Int32) (J : Nat → Nat → Int64) (rv sp rr w nw : Nat) (out : Int32 × (Nat → Nat → Int32)) (e : fX2_takeBack n I = some out) : mm_T none (d + 2) 17 (mm_ent 17 [(.ref 33)]) (107, I, J, mm_rf rv sp rr w nw) (fun v h => v = some (.int out.1) ∧ h = (107, out.2, J, mm_rf rv sp rr w nw)) := by
  unfold fX2_takeBack at e
  refine mm_T.seg (f' := (4, [some (.ref 33)], [(.int (I 33 4))])) (h' := (107, I, J, mm_rf rv sp rr w nw)) 2 rfl ?_
  refine mm_T.br (c := 0 < (I 33 4)) (a := ((9, [some (.ref 33)], []), (107, I, J, mm_rf rv sp rr w nw))) (b := ((7, [some (.ref 33)], []), (107, I, J, mm_rf rv sp rr w nw))) rfl (fun h1402 => ?_) (fun h1402 => ?_)
  · rw [if_pos h1402] at e
    refine mm_T.seg (f' := (14, [some (.ref 33)], [(.int (I 33 3)), (.ref 33)])) (h' := (107, I, J, mm_rf rv sp rr w nw)) 3 rfl ?_
    obtain ⟨o1403, eo1403, e⟩ := mm_bind e
    refine mm_T.call (t := 13) (as := [(.ref 33), (.int (I 33 3))]) (f' := (17, [some (.ref 33)], [])) rfl (tX2_keep (d + 0) n (I 33 3) I J rv sp rr w nw o1403 eo1403) (fun v h hq => ?_)
    obtain ⟨rfl, rfl⟩ := hq
    refine mm_T.seg (f' := (38, [some (.ref 33)], [(.int ((((o1403 33 3) + 41) - 1) - (((o1403 33 3) + 41) - 1) / 41 * 41)), (.ref 33)])) (h' := (107, (mm_up o1403 33 3 ((((o1403 33 3) + 41) - 1) - (((o1403 33 3) + 41) - 1) / 41 * 41)), J, mm_rf rv sp rr w nw)) 13 rfl ?_
    obtain ⟨o1404, eo1404, e⟩ := mm_bind e
    refine mm_T.call (t := 14) (as := [(.ref 33), (.int ((((o1403 33 3) + 41) - 1) - (((o1403 33 3) + 41) - 1) / 41 * 41))]) (f' := (41, [some (.ref 33)], [])) rfl (tX2_bring (d + 0) n ((((o1403 33 3) + 41) - 1) - (((o1403 33 3) + 41) - 1) / 41 * 41) (mm_up o1403 33 3 ((((o1403 33 3) + 41) - 1) - (((o1403 33 3) + 41) - 1) / 41 * 41)) J rv sp rr w nw o1404 eo1404) (fun v h hq => ?_)
    obtain ⟨rfl, rfl⟩ := hq
    refine mm_T.seg (f' := (62, [some (.ref 33)], [(.int 1)])) (h' := (107, (mm_up (mm_up o1404 33 4 ((o1404 33 4) - 1)) 33 5 ((o1404 33 5) + 1)), J, mm_rf rv sp rr w nw)) 13 rfl ?_
    cases e
    exact mm_T.ret rfl ⟨rfl, rfl⟩
  · rw [if_neg h1402] at e
    refine mm_T.seg (f' := (8, [some (.ref 33)], [(.int 0)])) (h' := (107, I, J, mm_rf rv sp rr w nw)) 1 rfl ?_
    cases e
    exact mm_T.ret rfl ⟨rfl, rfl⟩
set_option maxRecDepth 100000 in
set_option maxHeartbeats 4000000 in
theorem tX2_doAgain (d n : Nat) (I : Nat → Nat → Int32) (J : Nat → Nat → Int64) (rv sp rr w nw : Nat) (out : Int32 × (Nat → Nat → Int32)) (e : fX2_doAgain n I = some out) : mm_T none (d + 2) 18 (mm_ent 18 [(.ref 33)]) (107, I, J, mm_rf rv sp rr w nw) (fun v h => v = some (.int out.1) ∧ h = (107, out.2, J, mm_rf rv sp rr w nw)) := by
  unfold fX2_doAgain at e
  refine mm_T.seg (f' := (4, [some (.ref 33)], [(.int (I 33 5))])) (h' := (107, I, J, mm_rf rv sp rr w nw)) 2 rfl ?_
  refine mm_T.br (c := 0 < (I 33 5)) (a := ((9, [some (.ref 33)], []), (107, I, J, mm_rf rv sp rr w nw))) (b := ((7, [some (.ref 33)], []), (107, I, J, mm_rf rv sp rr w nw))) rfl (fun h1405 => ?_) (fun h1405 => ?_)
  · rw [if_pos h1405] at e
    refine mm_T.seg (f' := (14, [some (.ref 33)], [(.int (I 33 3)), (.ref 33)])) (h' := (107, I, J, mm_rf rv sp rr w nw)) 3 rfl ?_
    obtain ⟨o1406, eo1406, e⟩ := mm_bind e
    refine mm_T.call (t := 13) (as := [(.ref 33), (.int (I 33 3))]) (f' := (17, [some (.ref 33)], [])) rfl (tX2_keep (d + 0) n (I 33 3) I J rv sp rr w nw o1406 eo1406) (fun v h hq => ?_)
    obtain ⟨rfl, rfl⟩ := hq
    refine mm_T.seg (f' := (35, [some (.ref 33)], [(.int (((o1406 33 3) + 1) - ((o1406 33 3) + 1) / 41 * 41)), (.ref 33)])) (h' := (107, (mm_up o1406 33 3 (((o1406 33 3) + 1) - ((o1406 33 3) + 1) / 41 * 41)), J, mm_rf rv sp rr w nw)) 11 rfl ?_
    obtain ⟨o1407, eo1407, e⟩ := mm_bind e
    refine mm_T.call (t := 14) (as := [(.ref 33), (.int (((o1406 33 3) + 1) - ((o1406 33 3) + 1) / 41 * 41))]) (f' := (38, [some (.ref 33)], [])) rfl (tX2_bring (d + 0) n (((o1406 33 3) + 1) - ((o1406 33 3) + 1) / 41 * 41) (mm_up o1406 33 3 (((o1406 33 3) + 1) - ((o1406 33 3) + 1) / 41 * 41)) J rv sp rr w nw o1407 eo1407) (fun v h hq => ?_)
    obtain ⟨rfl, rfl⟩ := hq
    refine mm_T.seg (f' := (59, [some (.ref 33)], [(.int 1)])) (h' := (107, (mm_up (mm_up o1407 33 4 ((o1407 33 4) + 1)) 33 5 ((o1407 33 5) - 1)), J, mm_rf rv sp rr w nw)) 13 rfl ?_
    cases e
    exact mm_T.ret rfl ⟨rfl, rfl⟩
  · rw [if_neg h1405] at e
    refine mm_T.seg (f' := (8, [some (.ref 33)], [(.int 0)])) (h' := (107, I, J, mm_rf rv sp rr w nw)) 1 rfl ?_
    cases e
    exact mm_T.ret rfl ⟨rfl, rfl⟩
set_option maxRecDepth 100000 in
set_option maxHeartbeats 4000000 in
theorem tX2_emptyBoxes (d : Nat) (I : Nat → Nat → Int32) (J : Nat → Nat → Int64) (rv sp rr w nw : Nat) (out : (Nat → Nat → Int32)) (e : fX2_emptyBoxes I = out) : mm_T none (d + 0) 19 (mm_ent 19 [(.ref 33)]) (107, I, J, mm_rf rv sp rr w nw) (fun v h => v = none ∧ h = (107, out, J, mm_rf rv sp rr w nw)) := by
  unfold fX2_emptyBoxes at e
  refine mm_T.seg (f' := (5, [some (.ref 33)], [])) (h' := (107, (mm_up I 33 2 0), J, mm_rf rv sp rr w nw)) 3 rfl ?_
  cases e
  exact mm_T.ret rfl ⟨rfl, rfl⟩
set_option maxRecDepth 100000 in
set_option maxHeartbeats 4000000 in
theorem tX2_fillBox (d n : Nat) (x1 : Int32) (I : Nat → Nat → Int32) (J : Nat → Nat → Int64) (rv sp rr w nw : Nat) (out : Int32 × (Nat → Nat → Int32)) (e : fX2_fillBox n x1 I = some out) : mm_T none (d + 2) 20 (mm_ent 20 [(.ref 33), (.int x1)]) (107, I, J, mm_rf rv sp rr w nw) (fun v h => v = some (.int out.1) ∧ h = (107, out.2, J, mm_rf rv sp rr w nw)) := by
  unfold fX2_fillBox at e
  refine mm_T.seg (f' := (1, [some (.ref 33), some (.int x1)], [(.int x1)])) (h' := (107, I, J, mm_rf rv sp rr w nw)) 1 rfl ?_
  refine mm_T.br (c := x1 < 0) (a := ((9, [some (.ref 33), some (.int x1)], []), (107, I, J, mm_rf rv sp rr w nw))) (b := ((4, [some (.ref 33), some (.int x1)], []), (107, I, J, mm_rf rv sp rr w nw))) rfl (fun h1408 => ?_) (fun h1408 => ?_)
  · rw [if_pos h1408] at e
    refine mm_T.seg (f' := (10, [some (.ref 33), some (.int x1)], [(.int 0)])) (h' := (107, I, J, mm_rf rv sp rr w nw)) 1 rfl ?_
    cases e
    exact mm_T.ret rfl ⟨rfl, rfl⟩
  · rw [if_neg h1408] at e
    refine mm_T.seg (f' := (6, [some (.ref 33), some (.int x1)], [(.int 3), (.int x1)])) (h' := (107, I, J, mm_rf rv sp rr w nw)) 2 rfl ?_
    refine mm_T.br (c := x1 < 3) (a := ((11, [some (.ref 33), some (.int x1)], []), (107, I, J, mm_rf rv sp rr w nw))) (b := ((9, [some (.ref 33), some (.int x1)], []), (107, I, J, mm_rf rv sp rr w nw))) rfl (fun h1409 => ?_) (fun h1409 => ?_)
    · rw [if_pos h1409] at e
      refine mm_T.seg (f' := (16, [some (.ref 33), some (.int x1)], [(.int (41 + x1)), (.ref 33)])) (h' := (107, I, J, mm_rf rv sp rr w nw)) 4 rfl ?_
      obtain ⟨o1410, eo1410, e⟩ := mm_bind e
      refine mm_T.call (t := 13) (as := [(.ref 33), (.int (41 + x1))]) (f' := (19, [some (.ref 33), some (.int x1)], [])) rfl (tX2_keep (d + 0) n (41 + x1) I J rv sp rr w nw o1410 eo1410) (fun v h hq => ?_)
      obtain ⟨rfl, rfl⟩ := hq
      refine mm_T.seg (f' := (32, [some (.ref 33), some (.int x1)], [(.int 1)])) (h' := (107, (mm_up o1410 33 2 ((o1410 33 2) ||| ((1 : Int32) <<< (x1 &&& 31)))), J, mm_rf rv sp rr w nw)) 9 rfl ?_
      cases e
      exact mm_T.ret rfl ⟨rfl, rfl⟩
    · rw [if_neg h1409] at e
      refine mm_T.seg (f' := (10, [some (.ref 33), some (.int x1)], [(.int 0)])) (h' := (107, I, J, mm_rf rv sp rr w nw)) 1 rfl ?_
      cases e
      exact mm_T.ret rfl ⟨rfl, rfl⟩
set_option maxRecDepth 100000 in
set_option maxHeartbeats 4000000 in
theorem tX2_openBox (d n : Nat) (x1 : Int32) (I : Nat → Nat → Int32) (J : Nat → Nat → Int64) (rv sp rr w nw : Nat) (out : Int32 × (Nat → Nat → Int32)) (e : fX2_openBox n x1 I = some out) : mm_T none (d + 2) 21 (mm_ent 21 [(.ref 33), (.int x1)]) (107, I, J, mm_rf rv sp rr w nw) (fun v h => v = some (.int out.1) ∧ h = (107, out.2, J, mm_rf rv sp rr w nw)) := by
  unfold fX2_openBox at e
  refine mm_T.seg (f' := (1, [some (.ref 33), some (.int x1)], [(.int x1)])) (h' := (107, I, J, mm_rf rv sp rr w nw)) 1 rfl ?_
  refine mm_T.br (c := x1 < 0) (a := ((20, [some (.ref 33), some (.int x1)], []), (107, I, J, mm_rf rv sp rr w nw))) (b := ((4, [some (.ref 33), some (.int x1)], []), (107, I, J, mm_rf rv sp rr w nw))) rfl (fun h1411 => ?_) (fun h1411 => ?_)
  · rw [if_pos h1411] at e
    refine mm_T.seg (f' := (21, [some (.ref 33), some (.int x1)], [(.int 0)])) (h' := (107, I, J, mm_rf rv sp rr w nw)) 1 rfl ?_
    cases e
    exact mm_T.ret rfl ⟨rfl, rfl⟩
  · rw [if_neg h1411] at e
    refine mm_T.seg (f' := (6, [some (.ref 33), some (.int x1)], [(.int 3), (.int x1)])) (h' := (107, I, J, mm_rf rv sp rr w nw)) 2 rfl ?_
    refine mm_T.br (c := x1 < 3) (a := ((9, [some (.ref 33), some (.int x1)], []), (107, I, J, mm_rf rv sp rr w nw))) (b := ((20, [some (.ref 33), some (.int x1)], []), (107, I, J, mm_rf rv sp rr w nw))) rfl (fun h1412 => ?_) (fun h1412 => ?_)
    · rw [if_pos h1412] at e
      refine mm_T.seg (f' := (17, [some (.ref 33), some (.int x1)], [(.int (((I 33 2) >>> (x1 &&& 31)) &&& 1))])) (h' := (107, I, J, mm_rf rv sp rr w nw)) 6 rfl ?_
      refine mm_T.br (c := (((I 33 2) >>> (x1 &&& 31)) &&& 1) = 0) (a := ((20, [some (.ref 33), some (.int x1)], []), (107, I, J, mm_rf rv sp rr w nw))) (b := ((22, [some (.ref 33), some (.int x1)], []), (107, I, J, mm_rf rv sp rr w nw))) rfl (fun h1413 => ?_) (fun h1413 => ?_)
      · rw [if_pos h1413] at e
        refine mm_T.seg (f' := (21, [some (.ref 33), some (.int x1)], [(.int 0)])) (h' := (107, I, J, mm_rf rv sp rr w nw)) 1 rfl ?_
        cases e
        exact mm_T.ret rfl ⟨rfl, rfl⟩
      · rw [if_neg h1413] at e
        refine mm_T.seg (f' := (27, [some (.ref 33), some (.int x1)], [(.int (41 + x1)), (.ref 33)])) (h' := (107, I, J, mm_rf rv sp rr w nw)) 4 rfl ?_
        obtain ⟨o1414, eo1414, e⟩ := mm_bind e
        refine mm_T.call (t := 14) (as := [(.ref 33), (.int (41 + x1))]) (f' := (30, [some (.ref 33), some (.int x1)], [])) rfl (tX2_bring (d + 0) n (41 + x1) I J rv sp rr w nw o1414 eo1414) (fun v h hq => ?_)
        obtain ⟨rfl, rfl⟩ := hq
        refine mm_T.seg (f' := (31, [some (.ref 33), some (.int x1)], [(.ref 33)])) (h' := (107, o1414, J, mm_rf rv sp rr w nw)) 1 rfl ?_
        obtain ⟨g205, hg205⟩ : ∃ z, fX2_forgetActs o1414 = z := ⟨_, rfl⟩
        try rw [hg205] at e
        refine mm_T.call (t := 15) (as := [(.ref 33)]) (f' := (34, [some (.ref 33), some (.int x1)], [])) rfl (tX2_forgetActs (d + 1) o1414 J rv sp rr w nw g205 hg205) (fun v h hq => ?_)
        obtain ⟨rfl, rfl⟩ := hq
        refine mm_T.seg (f' := (35, [some (.ref 33), some (.int x1)], [(.int 1)])) (h' := (107, g205, J, mm_rf rv sp rr w nw)) 1 rfl ?_
        cases e
        exact mm_T.ret rfl ⟨rfl, rfl⟩
    · rw [if_neg h1412] at e
      refine mm_T.seg (f' := (21, [some (.ref 33), some (.int x1)], [(.int 0)])) (h' := (107, I, J, mm_rf rv sp rr w nw)) 1 rfl ?_
      cases e
      exact mm_T.ret rfl ⟨rfl, rfl⟩
set_option maxRecDepth 100000 in
set_option maxHeartbeats 4000000 in
theorem tX3_clear (d : Nat) (I : Nat → Nat → Int32) (J : Nat → Nat → Int64) (rv sp rr w nw : Nat) (out : (Nat → Nat → Int32)) (e : fX3_clear I = out) : mm_T none (d + 0) 23 (mm_ent 23 [(.ref 35)]) (107, I, J, mm_rf rv sp rr w nw) (fun v h => v = none ∧ h = (107, out, J, mm_rf rv sp rr w nw)) := by
  unfold fX3_clear at e
  refine mm_T.seg (f' := (5, [some (.ref 35)], [])) (h' := (107, (mm_up I 35 1 0), J, mm_rf rv sp rr w nw)) 3 rfl ?_
  cases e
  exact mm_T.ret rfl ⟨rfl, rfl⟩
