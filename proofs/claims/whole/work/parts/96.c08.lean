set_option maxRecDepth 100000 in
set_option maxHeartbeats 4000000 in
theorem tbX7_makeStroke_J223 (d : Nat) (y9 : Int32) (u0 : Int32) (I : Nat → Nat → Int32) (J : Nat → Nat → Int64) (rv sp rr w nw : Nat) (out : Int32 × (Nat → Nat → Int32)) (e : fX7_makeStroke_J223 y9 u0 I = some out) : mm_T none (d + 4) 124 (223, [none, none, none, none, none, none, none, none, none, some (.int y9)], [(.int u0)]) (107, I, J, mm_rf rv sp rr w nw) (fun v h => v = some (.int out.1) ∧ h = (107, out.2, J, mm_rf rv sp rr w nw)) := by
  unfold fX7_makeStroke_J223 at e
  refine mm_T.seg (f' := (225, [none, none, none, none, none, none, none, none, none, some (.int y9)], [(.int y9), (.int u0)])) (h' := (107, I, J, mm_rf rv sp rr w nw)) 1 rfl ?_
  refine mm_T.br (c := y9 = 0) (a := ((232, [none, none, none, none, none, none, none, none, none, some (.int y9)], [(.int u0)]), (107, I, J, mm_rf rv sp rr w nw))) (b := ((228, [none, none, none, none, none, none, none, none, none, some (.int y9)], [(.int u0)]), (107, I, J, mm_rf rv sp rr w nw))) rfl (fun h2057 => ?_) (fun h2057 => ?_)
  · rw [if_pos h2057] at e
    refine mm_T.seg (f' := (234, [none, none, none, none, none, none, none, none, none, some (.int y9)], [(.int (u0 + 0))])) (h' := (107, I, J, mm_rf rv sp rr w nw)) 2 rfl ?_
    cases e
    exact mm_T.ret rfl ⟨rfl, rfl⟩
  · rw [if_neg h2057] at e
    refine mm_T.seg (f' := (234, [none, none, none, none, none, none, none, none, none, some (.int y9)], [(.int (u0 + 2))])) (h' := (107, I, J, mm_rf rv sp rr w nw)) 3 rfl ?_
    cases e
    exact mm_T.ret rfl ⟨rfl, rfl⟩
set_option maxRecDepth 100000 in
set_option maxHeartbeats 4000000 in
theorem tbX7_makeStroke_J197 (d : Nat) (y1 : Int32) (y8 : Int32) (y9 : Int32) (u0 : Int32) (u1 : Int32) (u2 : Int32) (I : Nat → Nat → Int32) (J : Nat → Nat → Int64) (rv sp rr w nw : Nat) (out : Int32 × (Nat → Nat → Int32)) (e : fX7_makeStroke_J197 y1 y8 y9 u0 u1 u2 I = some out) : mm_T none (d + 4) 124 (197, [some (.ref 18), some (.int y1), none, none, none, none, none, none, some (.int y8), some (.int y9)], [(.int u0), (.int u1), (.int u2), (.ref 18)]) (107, I, J, mm_rf rv sp rr w nw) (fun v h => v = some (.int out.1) ∧ h = (107, out.2, J, mm_rf rv sp rr w nw)) := by
  unfold fX7_makeStroke_J197 at e
  refine mm_T.call (t := 104) (as := [(.ref 18), (.int u2), (.int u1), (.int u0)]) (f' := (200, [some (.ref 18), some (.int y1), none, none, none, none, none, none, some (.int y8), some (.int y9)], [])) rfl (tX7_set (d + 2) u2 u1 u0 I J rv sp rr w nw _ rfl) (fun v h hq => ?_)
  obtain ⟨rfl, rfl⟩ := hq
  refine mm_T.seg (f' := (205, [some (.ref 18), some (.int y1), none, none, none, none, none, none, some (.int y8), some (.int y9)], [(.int y1), (.ref 18), (.int 4), (.int y1), (.ref 18)])) (h' := (107, (fX7_set u2 u1 u0 I), J, mm_rf rv sp rr w nw)) 5 rfl ?_
  refine mm_T.call (t := 110) (as := [(.ref 18), (.int y1)]) (f' := (208, [some (.ref 18), some (.int y1), none, none, none, none, none, none, some (.int y8), some (.int y9)], [(.int 4), (.int y1), (.ref 18)])) rfl (tX7_strokesOf (d + 1) y1 (fX7_set u2 u1 u0 I) J rv sp rr w nw _ rfl) (fun v h hq => ?_)
  obtain ⟨rfl, rfl⟩ := hq
  refine mm_T.seg (f' := (210, [some (.ref 18), some (.int y1), none, none, none, none, none, none, some (.int y8), some (.int y9)], [(.int ((fX7_strokesOf y1 (fX7_set u2 u1 u0 I)) + 1)), (.int 4), (.int y1), (.ref 18)])) (h' := (107, (fX7_set u2 u1 u0 I), J, mm_rf rv sp rr w nw)) 2 rfl ?_
  refine mm_T.call (t := 104) (as := [(.ref 18), (.int y1), (.int 4), (.int ((fX7_strokesOf y1 (fX7_set u2 u1 u0 I)) + 1))]) (f' := (213, [some (.ref 18), some (.int y1), none, none, none, none, none, none, some (.int y8), some (.int y9)], [])) rfl (tX7_set (d + 2) y1 4 ((fX7_strokesOf y1 (fX7_set u2 u1 u0 I)) + 1) (fX7_set u2 u1 u0 I) J rv sp rr w nw _ rfl) (fun v h hq => ?_)
  obtain ⟨rfl, rfl⟩ := hq
  refine mm_T.seg (f' := (215, [some (.ref 18), some (.int y1), none, none, none, none, none, none, some (.int y8), some (.int y9)], [(.int y8)])) (h' := (107, (fX7_set y1 4 ((fX7_strokesOf y1 (fX7_set u2 u1 u0 I)) + 1) (fX7_set u2 u1 u0 I)), J, mm_rf rv sp rr w nw)) 1 rfl ?_
  refine mm_T.br (c := y8 = 0) (a := ((222, [some (.ref 18), some (.int y1), none, none, none, none, none, none, some (.int y8), some (.int y9)], []), (107, (fX7_set y1 4 ((fX7_strokesOf y1 (fX7_set u2 u1 u0 I)) + 1) (fX7_set u2 u1 u0 I)), J, mm_rf rv sp rr w nw))) (b := ((218, [some (.ref 18), some (.int y1), none, none, none, none, none, none, some (.int y8), some (.int y9)], []), (107, (fX7_set y1 4 ((fX7_strokesOf y1 (fX7_set u2 u1 u0 I)) + 1) (fX7_set u2 u1 u0 I)), J, mm_rf rv sp rr w nw))) rfl (fun h2056 => ?_) (fun h2056 => ?_)
  · rw [if_pos h2056] at e
    refine mm_T.seg (f' := (223, [some (.ref 18), some (.int y1), none, none, none, none, none, none, some (.int y8), some (.int y9)], [(.int 0)])) (h' := (107, (fX7_set y1 4 ((fX7_strokesOf y1 (fX7_set u2 u1 u0 I)) + 1) (fX7_set u2 u1 u0 I)), J, mm_rf rv sp rr w nw)) 1 rfl ?_
    refine mm_T.mask [false, false, false, false, false, false, false, false, false, true] ?_
    exact tbX7_makeStroke_J223 d y9 0 (fX7_set y1 4 ((fX7_strokesOf y1 (fX7_set u2 u1 u0 I)) + 1) (fX7_set u2 u1 u0 I)) J rv sp rr w nw out e
  · rw [if_neg h2056] at e
    refine mm_T.seg (f' := (223, [some (.ref 18), some (.int y1), none, none, none, none, none, none, some (.int y8), some (.int y9)], [(.int 1)])) (h' := (107, (fX7_set y1 4 ((fX7_strokesOf y1 (fX7_set u2 u1 u0 I)) + 1) (fX7_set u2 u1 u0 I)), J, mm_rf rv sp rr w nw)) 2 rfl ?_
    refine mm_T.mask [false, false, false, false, false, false, false, false, false, true] ?_
    exact tbX7_makeStroke_J223 d y9 1 (fX7_set y1 4 ((fX7_strokesOf y1 (fX7_set u2 u1 u0 I)) + 1) (fX7_set u2 u1 u0 I)) J rv sp rr w nw out e
set_option maxRecDepth 100000 in
set_option maxHeartbeats 4000000 in
theorem tbX7_makeStroke_J183 (d : Nat) (y1 : Int32) (y5 : Int32) (y8 : Int32) (y9 : Int32) (I : Nat → Nat → Int32) (J : Nat → Nat → Int64) (rv sp rr w nw : Nat) (out : Int32 × (Nat → Nat → Int32)) (e : fX7_makeStroke_J183 y1 y5 y8 y9 I = some out) : mm_T none (d + 4) 124 (183, [some (.ref 18), some (.int y1), none, none, none, some (.int y5), none, none, some (.int y8), some (.int y9)], []) (107, I, J, mm_rf rv sp rr w nw) (fun v h => v = some (.int out.1) ∧ h = (107, out.2, J, mm_rf rv sp rr w nw)) := by
  unfold fX7_makeStroke_J183 at e
  refine mm_T.seg (f' := (188, [some (.ref 18), some (.int y1), none, none, none, some (.int y5), none, none, some (.int y8), some (.int y9)], [(.int y9), (.int 2), (.int y1), (.ref 18)])) (h' := (107, I, J, mm_rf rv sp rr w nw)) 4 rfl ?_
  refine mm_T.br (c := y9 = 0) (a := ((195, [some (.ref 18), some (.int y1), none, none, none, some (.int y5), none, none, some (.int y8), some (.int y9)], [(.int 2), (.int y1), (.ref 18)]), (107, I, J, mm_rf rv sp rr w nw))) (b := ((191, [some (.ref 18), some (.int y1), none, none, none, some (.int y5), none, none, some (.int y8), some (.int y9)], [(.int 2), (.int y1), (.ref 18)]), (107, I, J, mm_rf rv sp rr w nw))) rfl (fun h2055 => ?_) (fun h2055 => ?_)
  · rw [if_pos h2055] at e
    refine mm_T.seg (f' := (197, [some (.ref 18), some (.int y1), none, none, none, some (.int y5), none, none, some (.int y8), some (.int y9)], [(.int y5), (.int 2), (.int y1), (.ref 18)])) (h' := (107, I, J, mm_rf rv sp rr w nw)) 1 rfl ?_
    refine mm_T.mask [true, true, false, false, false, false, false, false, true, true] ?_
    exact tbX7_makeStroke_J197 d y1 y8 y9 y5 2 y1 I J rv sp rr w nw out e
  · rw [if_neg h2055] at e
    refine mm_T.seg (f' := (197, [some (.ref 18), some (.int y1), none, none, none, some (.int y5), none, none, some (.int y8), some (.int y9)], [(.int 0), (.int 2), (.int y1), (.ref 18)])) (h' := (107, I, J, mm_rf rv sp rr w nw)) 2 rfl ?_
    refine mm_T.mask [true, true, false, false, false, false, false, false, true, true] ?_
    exact tbX7_makeStroke_J197 d y1 y8 y9 0 2 y1 I J rv sp rr w nw out e
set_option maxRecDepth 100000 in
set_option maxHeartbeats 4000000 in
theorem tbX7_makeStroke_J159 (d : Nat) (y1 : Int32) (y5 : Int32) (y8 : Int32) (y9 : Int32) (I : Nat → Nat → Int32) (J : Nat → Nat → Int64) (rv sp rr w nw : Nat) (out : Int32 × (Nat → Nat → Int32)) (e : fX7_makeStroke_J159 y1 y5 y8 y9 I = some out) : mm_T none (d + 4) 124 (159, [some (.ref 18), some (.int y1), none, none, none, some (.int y5), none, none, some (.int y8), some (.int y9)], []) (107, I, J, mm_rf rv sp rr w nw) (fun v h => v = some (.int out.1) ∧ h = (107, out.2, J, mm_rf rv sp rr w nw)) := by
  unfold fX7_makeStroke_J159 at e
  refine mm_T.seg (f' := (161, [some (.ref 18), some (.int y1), none, none, none, some (.int y5), none, none, some (.int y8), some (.int y9)], [(.int y9)])) (h' := (107, I, J, mm_rf rv sp rr w nw)) 1 rfl ?_
  refine mm_T.br (c := y9 = 0) (a := ((183, [some (.ref 18), some (.int y1), none, none, none, some (.int y5), none, none, some (.int y8), some (.int y9)], []), (107, I, J, mm_rf rv sp rr w nw))) (b := ((164, [some (.ref 18), some (.int y1), none, none, none, some (.int y5), none, none, some (.int y8), some (.int y9)], []), (107, I, J, mm_rf rv sp rr w nw))) rfl (fun h2054 => ?_) (fun h2054 => ?_)
  · rw [if_pos h2054] at e
    refine mm_T.mask [true, true, false, false, false, true, false, false, true, true] ?_
    exact tbX7_makeStroke_J183 d y1 y5 y8 y9 I J rv sp rr w nw out e
  · rw [if_neg h2054] at e
    refine mm_T.seg (f' := (172, [some (.ref 18), some (.int y1), none, none, none, some (.int y5), none, none, some (.int y8), some (.int y9)], [(.int y1), (.ref 18), (.int 999), (.int 3), (.int y1), (.ref 18)])) (h' := (107, I, J, mm_rf rv sp rr w nw)) 6 rfl ?_
    refine mm_T.call (t := 109) (as := [(.ref 18), (.int y1)]) (f' := (175, [some (.ref 18), some (.int y1), none, none, none, some (.int y5), none, none, some (.int y8), some (.int y9)], [(.int 999), (.int 3), (.int y1), (.ref 18)])) rfl (tX7_scorchesOf (d + 1) y1 I J rv sp rr w nw _ rfl) (fun v h hq => ?_)
    obtain ⟨rfl, rfl⟩ := hq
    refine mm_T.seg (f' := (177, [some (.ref 18), some (.int y1), none, none, none, some (.int y5), none, none, some (.int y8), some (.int y9)], [(.int ((fX7_scorchesOf y1 I) + 1)), (.int 999), (.int 3), (.int y1), (.ref 18)])) (h' := (107, I, J, mm_rf rv sp rr w nw)) 2 rfl ?_
    refine mm_T.call (t := 348) (as := [(.int 999), (.int ((fX7_scorchesOf y1 I) + 1))]) (f' := (180, [some (.ref 18), some (.int y1), none, none, none, some (.int y5), none, none, some (.int y8), some (.int y9)], [(.int 3), (.int y1), (.ref 18)])) rfl (tJ9_min (d + 3) 999 ((fX7_scorchesOf y1 I) + 1) I J rv sp rr w nw _ rfl) (fun v h hq => ?_)
    obtain ⟨rfl, rfl⟩ := hq
    refine mm_T.call (t := 104) (as := [(.ref 18), (.int y1), (.int 3), (.int (fJ9_min 999 ((fX7_scorchesOf y1 I) + 1)))]) (f' := (183, [some (.ref 18), some (.int y1), none, none, none, some (.int y5), none, none, some (.int y8), some (.int y9)], [])) rfl (tX7_set (d + 2) y1 3 (fJ9_min 999 ((fX7_scorchesOf y1 I) + 1)) I J rv sp rr w nw _ rfl) (fun v h hq => ?_)
    obtain ⟨rfl, rfl⟩ := hq
    refine mm_T.mask [true, true, false, false, false, true, false, false, true, true] ?_
    exact tbX7_makeStroke_J183 d y1 y5 y8 y9 (fX7_set y1 3 (fJ9_min 999 ((fX7_scorchesOf y1 I) + 1)) I) J rv sp rr w nw out e
set_option maxRecDepth 100000 in
set_option maxHeartbeats 4000000 in
theorem tbX7_makeStroke_J136 (d : Nat) (y1 : Int32) (y5 : Int32) (y6 : Int32) (y7 : Int32) (y8 : Int32) (u0 : Int32) (I : Nat → Nat → Int32) (J : Nat → Nat → Int64) (rv sp rr w nw : Nat) (out : Int32 × (Nat → Nat → Int32)) (e : fX7_makeStroke_J136 y1 y5 y6 y7 y8 u0 I = some out) : mm_T none (d + 4) 124 (136, [some (.ref 18), some (.int y1), none, none, none, some (.int y5), some (.int y6), some (.int y7), some (.int y8), none], [(.int u0)]) (107, I, J, mm_rf rv sp rr w nw) (fun v h => v = some (.int out.1) ∧ h = (107, out.2, J, mm_rf rv sp rr w nw)) := by
  unfold fX7_makeStroke_J136 at e
  refine mm_T.seg (f' := (140, [some (.ref 18), some (.int y1), none, none, none, some (.int y5), some (.int y6), some (.int y7), some (.int y8), some (.int u0)], [(.int y8)])) (h' := (107, I, J, mm_rf rv sp rr w nw)) 2 rfl ?_
  refine mm_T.br (c := y8 = 0) (a := ((143, [some (.ref 18), some (.int y1), none, none, none, some (.int y5), some (.int y6), some (.int y7), some (.int y8), some (.int u0)], []), (107, I, J, mm_rf rv sp rr w nw))) (b := ((159, [some (.ref 18), some (.int y1), none, none, none, some (.int y5), some (.int y6), some (.int y7), some (.int y8), some (.int u0)], []), (107, I, J, mm_rf rv sp rr w nw))) rfl (fun h2053 => ?_) (fun h2053 => ?_)
  · rw [if_pos h2053] at e
    refine mm_T.seg (f' := (148, [some (.ref 18), some (.int y1), none, none, none, some (.int y5), some (.int y6), some (.int y7), some (.int y8), some (.int u0)], [(.int y6), (.int 0), (.int y1), (.ref 18)])) (h' := (107, I, J, mm_rf rv sp rr w nw)) 4 rfl ?_
    refine mm_T.call (t := 104) (as := [(.ref 18), (.int y1), (.int 0), (.int y6)]) (f' := (151, [some (.ref 18), some (.int y1), none, none, none, some (.int y5), some (.int y6), some (.int y7), some (.int y8), some (.int u0)], [])) rfl (tX7_set (d + 2) y1 0 y6 I J rv sp rr w nw _ rfl) (fun v h hq => ?_)
    obtain ⟨rfl, rfl⟩ := hq
    refine mm_T.seg (f' := (156, [some (.ref 18), some (.int y1), none, none, none, some (.int y5), some (.int y6), some (.int y7), some (.int y8), some (.int u0)], [(.int y7), (.int 1), (.int y1), (.ref 18)])) (h' := (107, (fX7_set y1 0 y6 I), J, mm_rf rv sp rr w nw)) 4 rfl ?_
    refine mm_T.call (t := 104) (as := [(.ref 18), (.int y1), (.int 1), (.int y7)]) (f' := (159, [some (.ref 18), some (.int y1), none, none, none, some (.int y5), some (.int y6), some (.int y7), some (.int y8), some (.int u0)], [])) rfl (tX7_set (d + 2) y1 1 y7 (fX7_set y1 0 y6 I) J rv sp rr w nw _ rfl) (fun v h hq => ?_)
    obtain ⟨rfl, rfl⟩ := hq
    refine mm_T.mask [true, true, false, false, false, true, false, false, true, true] ?_
    exact tbX7_makeStroke_J159 d y1 y5 y8 u0 (fX7_set y1 1 y7 (fX7_set y1 0 y6 I)) J rv sp rr w nw out e
  · rw [if_neg h2053] at e
    refine mm_T.mask [true, true, false, false, false, true, false, false, true, true] ?_
    exact tbX7_makeStroke_J159 d y1 y5 y8 u0 I J rv sp rr w nw out e
set_option maxRecDepth 100000 in
set_option maxHeartbeats 4000000 in
theorem tbX7_makeStroke_J102 (d : Nat) (y1 : Int32) (y5 : Int32) (y6 : Int32) (u0 : Int32) (u1 : Int32) (I : Nat → Nat → Int32) (J : Nat → Nat → Int64) (rv sp rr w nw : Nat) (hrv : rv = 3 ∨ rv = 19) (out : Int32 × (Nat → Nat → Int32)) (e : fX7_makeStroke_J102 y1 y5 y6 u0 u1 I rv = some out) : mm_T none (d + 4) 124 (102, [some (.ref 18), some (.int y1), none, none, none, some (.int y5), some (.int y6), none, none, none], [(.int u0), (.int u1)]) (107, I, J, mm_rf rv sp rr w nw) (fun v h => v = some (.int out.1) ∧ h = (107, out.2, J, mm_rf rv sp rr w nw)) := by
  rcases hrv with rfl | rfl
  · unfold fX7_makeStroke_J102 at e
    refine mm_T.seg (f' := (109, [some (.ref 18), some (.int y1), none, none, none, some (.int y5), some (.int y6), some (.int (u1 + u0)), none, none], [(.ref 3)])) (h' := (107, I, J, mm_rf 3 sp rr w nw)) 4 rfl ?_
    refine mm_T.seg (f' := (113, [some (.ref 18), some (.int y1), none, none, none, some (.int y5), some (.int y6), some (.int (u1 + u0)), none, none], [(.int (u1 + u0)), (.int y6), (.ref 3)])) (h' := (107, I, J, mm_rf 3 sp rr w nw)) 2 rfl ?_
    refine mm_T.call (t := 69) (as := [(.ref 3), (.int y6), (.int (u1 + u0))]) (f' := (116, [some (.ref 18), some (.int y1), none, none, none, some (.int y5), some (.int y6), some (.int (u1 + u0)), none, none], [])) rfl (tX5_ironAt (d + 2) y6 (u1 + u0) 3 I J 3 sp rr w nw (Or.inl rfl) _ rfl) (fun v h hq => ?_)
    obtain ⟨rfl, rfl⟩ := hq
    refine mm_T.seg (f' := (124, [some (.ref 18), some (.int y1), none, none, none, some (.int y5), some (.int y6), some (.int (u1 + u0)), some (.int (fX5_ironAt y6 (u1 + u0) 3 I)), none], [(.ref 3), (.int y5)])) (h' := (107, I, J, mm_rf 3 sp rr w nw)) 4 rfl ?_
    refine mm_T.seg (f' := (125, [some (.ref 18), some (.int y1), none, none, none, some (.int y5), some (.int y6), some (.int (u1 + u0)), some (.int (fX5_ironAt y6 (u1 + u0) 3 I)), none], [(.int y1), (.ref 3), (.int y5)])) (h' := (107, I, J, mm_rf 3 sp rr w nw)) 1 rfl ?_
    refine mm_T.call (t := 79) (as := [(.ref 3), (.int y1)]) (f' := (128, [some (.ref 18), some (.int y1), none, none, none, some (.int y5), some (.int y6), some (.int (u1 + u0)), some (.int (fX5_ironAt y6 (u1 + u0) 3 I)), none], [(.int y5)])) rfl (tX5_bearsOf (d + 2) y1 3 I J 3 sp rr w nw (Or.inl rfl) _ rfl) (fun v h hq => ?_)
    obtain ⟨rfl, rfl⟩ := hq
    refine mm_T.br (c := (fX5_bearsOf y1 3 I) < y5) (a := ((131, [some (.ref 18), some (.int y1), none, none, none, some (.int y5), some (.int y6), some (.int (u1 + u0)), some (.int (fX5_ironAt y6 (u1 + u0) 3 I)), none], []), (107, I, J, mm_rf 3 sp rr w nw))) (b := ((135, [some (.ref 18), some (.int y1), none, none, none, some (.int y5), some (.int y6), some (.int (u1 + u0)), some (.int (fX5_ironAt y6 (u1 + u0) 3 I)), none], []), (107, I, J, mm_rf 3 sp rr w nw))) rfl (fun h2052 => ?_) (fun h2052 => ?_)
    · rw [if_pos h2052] at e
      refine mm_T.seg (f' := (136, [some (.ref 18), some (.int y1), none, none, none, some (.int y5), some (.int y6), some (.int (u1 + u0)), some (.int (fX5_ironAt y6 (u1 + u0) 3 I)), none], [(.int 1)])) (h' := (107, I, J, mm_rf 3 sp rr w nw)) 2 rfl ?_
      refine mm_T.mask [true, true, false, false, false, true, true, true, true, false] ?_
      exact tbX7_makeStroke_J136 d y1 y5 y6 (u1 + u0) (fX5_ironAt y6 (u1 + u0) 3 I) 1 I J 3 sp rr w nw out e
    · rw [if_neg h2052] at e
      refine mm_T.seg (f' := (136, [some (.ref 18), some (.int y1), none, none, none, some (.int y5), some (.int y6), some (.int (u1 + u0)), some (.int (fX5_ironAt y6 (u1 + u0) 3 I)), none], [(.int 0)])) (h' := (107, I, J, mm_rf 3 sp rr w nw)) 1 rfl ?_
      refine mm_T.mask [true, true, false, false, false, true, true, true, true, false] ?_
      exact tbX7_makeStroke_J136 d y1 y5 y6 (u1 + u0) (fX5_ironAt y6 (u1 + u0) 3 I) 0 I J 3 sp rr w nw out e
  · unfold fX7_makeStroke_J102 at e
    refine mm_T.seg (f' := (109, [some (.ref 18), some (.int y1), none, none, none, some (.int y5), some (.int y6), some (.int (u1 + u0)), none, none], [(.ref 19)])) (h' := (107, I, J, mm_rf 19 sp rr w nw)) 4 rfl ?_
    refine mm_T.seg (f' := (113, [some (.ref 18), some (.int y1), none, none, none, some (.int y5), some (.int y6), some (.int (u1 + u0)), none, none], [(.int (u1 + u0)), (.int y6), (.ref 19)])) (h' := (107, I, J, mm_rf 19 sp rr w nw)) 2 rfl ?_
    refine mm_T.call (t := 69) (as := [(.ref 19), (.int y6), (.int (u1 + u0))]) (f' := (116, [some (.ref 18), some (.int y1), none, none, none, some (.int y5), some (.int y6), some (.int (u1 + u0)), none, none], [])) rfl (tX5_ironAt (d + 2) y6 (u1 + u0) 19 I J 19 sp rr w nw (Or.inr rfl) _ rfl) (fun v h hq => ?_)
    obtain ⟨rfl, rfl⟩ := hq
    refine mm_T.seg (f' := (124, [some (.ref 18), some (.int y1), none, none, none, some (.int y5), some (.int y6), some (.int (u1 + u0)), some (.int (fX5_ironAt y6 (u1 + u0) 19 I)), none], [(.ref 19), (.int y5)])) (h' := (107, I, J, mm_rf 19 sp rr w nw)) 4 rfl ?_
    refine mm_T.seg (f' := (125, [some (.ref 18), some (.int y1), none, none, none, some (.int y5), some (.int y6), some (.int (u1 + u0)), some (.int (fX5_ironAt y6 (u1 + u0) 19 I)), none], [(.int y1), (.ref 19), (.int y5)])) (h' := (107, I, J, mm_rf 19 sp rr w nw)) 1 rfl ?_
    refine mm_T.call (t := 79) (as := [(.ref 19), (.int y1)]) (f' := (128, [some (.ref 18), some (.int y1), none, none, none, some (.int y5), some (.int y6), some (.int (u1 + u0)), some (.int (fX5_ironAt y6 (u1 + u0) 19 I)), none], [(.int y5)])) rfl (tX5_bearsOf (d + 2) y1 19 I J 19 sp rr w nw (Or.inr rfl) _ rfl) (fun v h hq => ?_)
    obtain ⟨rfl, rfl⟩ := hq
    refine mm_T.br (c := (fX5_bearsOf y1 19 I) < y5) (a := ((131, [some (.ref 18), some (.int y1), none, none, none, some (.int y5), some (.int y6), some (.int (u1 + u0)), some (.int (fX5_ironAt y6 (u1 + u0) 19 I)), none], []), (107, I, J, mm_rf 19 sp rr w nw))) (b := ((135, [some (.ref 18), some (.int y1), none, none, none, some (.int y5), some (.int y6), some (.int (u1 + u0)), some (.int (fX5_ironAt y6 (u1 + u0) 19 I)), none], []), (107, I, J, mm_rf 19 sp rr w nw))) rfl (fun h2052 => ?_) (fun h2052 => ?_)
    · rw [if_pos h2052] at e
      refine mm_T.seg (f' := (136, [some (.ref 18), some (.int y1), none, none, none, some (.int y5), some (.int y6), some (.int (u1 + u0)), some (.int (fX5_ironAt y6 (u1 + u0) 19 I)), none], [(.int 1)])) (h' := (107, I, J, mm_rf 19 sp rr w nw)) 2 rfl ?_
      refine mm_T.mask [true, true, false, false, false, true, true, true, true, false] ?_
      exact tbX7_makeStroke_J136 d y1 y5 y6 (u1 + u0) (fX5_ironAt y6 (u1 + u0) 19 I) 1 I J 19 sp rr w nw out e
    · rw [if_neg h2052] at e
      refine mm_T.seg (f' := (136, [some (.ref 18), some (.int y1), none, none, none, some (.int y5), some (.int y6), some (.int (u1 + u0)), some (.int (fX5_ironAt y6 (u1 + u0) 19 I)), none], [(.int 0)])) (h' := (107, I, J, mm_rf 19 sp rr w nw)) 1 rfl ?_
      refine mm_T.mask [true, true, false, false, false, true, true, true, true, false] ?_
      exact tbX7_makeStroke_J136 d y1 y5 y6 (u1 + u0) (fX5_ironAt y6 (u1 + u0) 19 I) 0 I J 19 sp rr w nw out e
set_option maxRecDepth 100000 in
set_option maxHeartbeats 4000000 in
theorem tbX7_makeStroke_J46 (d n : Nat) (y1 : Int32) (y2 : Int32) (y3 : Int32) (u0 : Int32) (I : Nat → Nat → Int32) (J : Nat → Nat → Int64) (rv sp rr w nw : Nat) (hrv : rv = 3 ∨ rv = 19) (out : Int32 × (Nat → Nat → Int32)) (e : fX7_makeStroke_J46 n y1 y2 y3 u0 I rv = some out) : mm_T none (d + 4) 124 (46, [some (.ref 18), some (.int y1), some (.int y2), some (.int y3), none, none, none, none, none, none], [(.int u0)]) (107, I, J, mm_rf rv sp rr w nw) (fun v h => v = some (.int out.1) ∧ h = (107, out.2, J, mm_rf rv sp rr w nw)) := by
  rcases hrv with rfl | rfl
  · unfold fX7_makeStroke_J46 at e
    refine mm_T.seg (f' := (52, [some (.ref 18), some (.int y1), some (.int y2), some (.int y3), some (.int u0), none, none, none, none, none], [(.int y1), (.ref 18), (.int 99)])) (h' := (107, I, J, mm_rf 3 sp rr w nw)) 4 rfl ?_
    refine mm_T.call (t := 107) (as := [(.ref 18), (.int y1)]) (f' := (55, [some (.ref 18), some (.int y1), some (.int y2), some (.int y3), some (.int u0), none, none, none, none, none], [(.int 99)])) rfl (tX7_heatOf (d + 1) y1 I J 3 sp rr w nw _ rfl) (fun v h hq => ?_)
    obtain ⟨rfl, rfl⟩ := hq
    refine mm_T.seg (f' := (57, [some (.ref 18), some (.int y1), some (.int y2), some (.int y3), some (.int u0), none, none, none, none, none], [(.int y1), (.ref 18), (.int (fX7_heatOf y1 I)), (.int 99)])) (h' := (107, I, J, mm_rf 3 sp rr w nw)) 2 rfl ?_
    obtain ⟨o2050, eo2050, e⟩ := mm_bind e
    refine mm_T.call (t := 123) (as := [(.ref 18), (.int y1)]) (f' := (60, [some (.ref 18), some (.int y1), some (.int y2), some (.int y3), some (.int u0), none, none, none, none, none], [(.int (fX7_heatOf y1 I)), (.int 99)])) rfl (tX7_nextWarmth (d + 0) n y1 I J 3 sp rr w nw (Or.inl rfl) o2050 eo2050) (fun v h hq => ?_)
    obtain ⟨rfl, rfl⟩ := hq
    refine mm_T.seg (f' := (61, [some (.ref 18), some (.int y1), some (.int y2), some (.int y3), some (.int u0), none, none, none, none, none], [(.int ((fX7_heatOf y1 I) + o2050.1)), (.int 99)])) (h' := (107, o2050.2, J, mm_rf 3 sp rr w nw)) 1 rfl ?_
    refine mm_T.call (t := 348) (as := [(.int 99), (.int ((fX7_heatOf y1 I) + o2050.1))]) (f' := (64, [some (.ref 18), some (.int y1), some (.int y2), some (.int y3), some (.int u0), none, none, none, none, none], [])) rfl (tJ9_min (d + 3) 99 ((fX7_heatOf y1 I) + o2050.1) o2050.2 J 3 sp rr w nw _ rfl) (fun v h hq => ?_)
    obtain ⟨rfl, rfl⟩ := hq
    refine mm_T.seg (f' := (70, [some (.ref 18), some (.int y1), some (.int y2), some (.int y3), some (.int u0), some (.int (fJ9_min 99 ((fX7_heatOf y1 I) + o2050.1))), none, none, none, none], [(.ref 3)])) (h' := (107, o2050.2, J, mm_rf 3 sp rr w nw)) 3 rfl ?_
    refine mm_T.seg (f' := (72, [some (.ref 18), some (.int y1), some (.int y2), some (.int y3), some (.int u0), some (.int (fJ9_min 99 ((fX7_heatOf y1 I) + o2050.1))), none, none, none, none], [(.int y1), (.ref 18), (.ref 3)])) (h' := (107, o2050.2, J, mm_rf 3 sp rr w nw)) 2 rfl ?_
    refine mm_T.call (t := 105) (as := [(.ref 18), (.int y1)]) (f' := (75, [some (.ref 18), some (.int y1), some (.int y2), some (.int y3), some (.int u0), some (.int (fJ9_min 99 ((fX7_heatOf y1 I) + o2050.1))), none, none, none, none], [(.ref 3)])) rfl (tX7_columnOf (d + 1) y1 o2050.2 J 3 sp rr w nw _ rfl) (fun v h hq => ?_)
    obtain ⟨rfl, rfl⟩ := hq
    refine mm_T.seg (f' := (77, [some (.ref 18), some (.int y1), some (.int y2), some (.int y3), some (.int u0), some (.int (fJ9_min 99 ((fX7_heatOf y1 I) + o2050.1))), none, none, none, none], [(.int y1), (.ref 18), (.int (fX7_columnOf y1 o2050.2)), (.ref 3)])) (h' := (107, o2050.2, J, mm_rf 3 sp rr w nw)) 2 rfl ?_
    refine mm_T.call (t := 106) (as := [(.ref 18), (.int y1)]) (f' := (80, [some (.ref 18), some (.int y1), some (.int y2), some (.int y3), some (.int u0), some (.int (fJ9_min 99 ((fX7_heatOf y1 I) + o2050.1))), none, none, none, none], [(.int (fX7_columnOf y1 o2050.2)), (.ref 3)])) rfl (tX7_rowOf (d + 1) y1 o2050.2 J 3 sp rr w nw _ rfl) (fun v h hq => ?_)
    obtain ⟨rfl, rfl⟩ := hq
    refine mm_T.seg (f' := (83, [some (.ref 18), some (.int y1), some (.int y2), some (.int y3), some (.int u0), some (.int (fJ9_min 99 ((fX7_heatOf y1 I) + o2050.1))), none, none, none, none], [(.int u0), (.int y2), (.int (fX7_rowOf y1 o2050.2)), (.int (fX7_columnOf y1 o2050.2)), (.ref 3)])) (h' := (107, o2050.2, J, mm_rf 3 sp rr w nw)) 2 rfl ?_
    refine mm_T.call (t := 81) (as := [(.ref 3), (.int (fX7_columnOf y1 o2050.2)), (.int (fX7_rowOf y1 o2050.2)), (.int y2), (.int u0)]) (f' := (86, [some (.ref 18), some (.int y1), some (.int y2), some (.int y3), some (.int u0), some (.int (fJ9_min 99 ((fX7_heatOf y1 I) + o2050.1))), none, none, none, none], [])) rfl (tX5_leadsTo (d + 2) (fX7_columnOf y1 o2050.2) (fX7_rowOf y1 o2050.2) y2 u0 3 o2050.2 J 3 sp rr w nw (Or.inl rfl) _ rfl) (fun v h hq => ?_)
    obtain ⟨rfl, rfl⟩ := hq
    refine mm_T.seg (f' := (90, [some (.ref 18), some (.int y1), some (.int y2), some (.int y3), some (.int u0), some (.int (fJ9_min 99 ((fX7_heatOf y1 I) + o2050.1))), some (.int (fX5_leadsTo (fX7_columnOf y1 o2050.2) (fX7_rowOf y1 o2050.2) y2 u0 3 o2050.2)), none, none, none], [(.int y1), (.ref 18)])) (h' := (107, o2050.2, J, mm_rf 3 sp rr w nw)) 3 rfl ?_
    refine mm_T.call (t := 106) (as := [(.ref 18), (.int y1)]) (f' := (93, [some (.ref 18), some (.int y1), some (.int y2), some (.int y3), some (.int u0), some (.int (fJ9_min 99 ((fX7_heatOf y1 I) + o2050.1))), some (.int (fX5_leadsTo (fX7_columnOf y1 o2050.2) (fX7_rowOf y1 o2050.2) y2 u0 3 o2050.2)), none, none, none], [])) rfl (tX7_rowOf (d + 1) y1 o2050.2 J 3 sp rr w nw _ rfl) (fun v h hq => ?_)
    obtain ⟨rfl, rfl⟩ := hq
    refine mm_T.seg (f' := (94, [some (.ref 18), some (.int y1), some (.int y2), some (.int y3), some (.int u0), some (.int (fJ9_min 99 ((fX7_heatOf y1 I) + o2050.1))), some (.int (fX5_leadsTo (fX7_columnOf y1 o2050.2) (fX7_rowOf y1 o2050.2) y2 u0 3 o2050.2)), none, none, none], [(.int y3), (.int (fX7_rowOf y1 o2050.2))])) (h' := (107, o2050.2, J, mm_rf 3 sp rr w nw)) 1 rfl ?_
    refine mm_T.br (c := y3 = 0) (a := ((101, [some (.ref 18), some (.int y1), some (.int y2), some (.int y3), some (.int u0), some (.int (fJ9_min 99 ((fX7_heatOf y1 I) + o2050.1))), some (.int (fX5_leadsTo (fX7_columnOf y1 o2050.2) (fX7_rowOf y1 o2050.2) y2 u0 3 o2050.2)), none, none, none], [(.int (fX7_rowOf y1 o2050.2))]), (107, o2050.2, J, mm_rf 3 sp rr w nw))) (b := ((97, [some (.ref 18), some (.int y1), some (.int y2), some (.int y3), some (.int u0), some (.int (fJ9_min 99 ((fX7_heatOf y1 I) + o2050.1))), some (.int (fX5_leadsTo (fX7_columnOf y1 o2050.2) (fX7_rowOf y1 o2050.2) y2 u0 3 o2050.2)), none, none, none], [(.int (fX7_rowOf y1 o2050.2))]), (107, o2050.2, J, mm_rf 3 sp rr w nw))) rfl (fun h2051 => ?_) (fun h2051 => ?_)
    · rw [if_pos h2051] at e
      refine mm_T.seg (f' := (102, [some (.ref 18), some (.int y1), some (.int y2), some (.int y3), some (.int u0), some (.int (fJ9_min 99 ((fX7_heatOf y1 I) + o2050.1))), some (.int (fX5_leadsTo (fX7_columnOf y1 o2050.2) (fX7_rowOf y1 o2050.2) y2 u0 3 o2050.2)), none, none, none], [(.int (-1)), (.int (fX7_rowOf y1 o2050.2))])) (h' := (107, o2050.2, J, mm_rf 3 sp rr w nw)) 1 rfl ?_
      refine mm_T.mask [true, true, false, false, false, true, true, false, false, false] ?_
      exact tbX7_makeStroke_J102 d y1 (fJ9_min 99 ((fX7_heatOf y1 I) + o2050.1)) (fX5_leadsTo (fX7_columnOf y1 o2050.2) (fX7_rowOf y1 o2050.2) y2 u0 3 o2050.2) (-1) (fX7_rowOf y1 o2050.2) o2050.2 J 3 sp rr w nw (Or.inl rfl) out e
    · rw [if_neg h2051] at e
      refine mm_T.seg (f' := (102, [some (.ref 18), some (.int y1), some (.int y2), some (.int y3), some (.int u0), some (.int (fJ9_min 99 ((fX7_heatOf y1 I) + o2050.1))), some (.int (fX5_leadsTo (fX7_columnOf y1 o2050.2) (fX7_rowOf y1 o2050.2) y2 u0 3 o2050.2)), none, none, none], [(.int 1), (.int (fX7_rowOf y1 o2050.2))])) (h' := (107, o2050.2, J, mm_rf 3 sp rr w nw)) 2 rfl ?_
      refine mm_T.mask [true, true, false, false, false, true, true, false, false, false] ?_
      exact tbX7_makeStroke_J102 d y1 (fJ9_min 99 ((fX7_heatOf y1 I) + o2050.1)) (fX5_leadsTo (fX7_columnOf y1 o2050.2) (fX7_rowOf y1 o2050.2) y2 u0 3 o2050.2) 1 (fX7_rowOf y1 o2050.2) o2050.2 J 3 sp rr w nw (Or.inl rfl) out e
  · unfold fX7_makeStroke_J46 at e
    refine mm_T.seg (f' := (52, [some (.ref 18), some (.int y1), some (.int y2), some (.int y3), some (.int u0), none, none, none, none, none], [(.int y1), (.ref 18), (.int 99)])) (h' := (107, I, J, mm_rf 19 sp rr w nw)) 4 rfl ?_
    refine mm_T.call (t := 107) (as := [(.ref 18), (.int y1)]) (f' := (55, [some (.ref 18), some (.int y1), some (.int y2), some (.int y3), some (.int u0), none, none, none, none, none], [(.int 99)])) rfl (tX7_heatOf (d + 1) y1 I J 19 sp rr w nw _ rfl) (fun v h hq => ?_)
    obtain ⟨rfl, rfl⟩ := hq
    refine mm_T.seg (f' := (57, [some (.ref 18), some (.int y1), some (.int y2), some (.int y3), some (.int u0), none, none, none, none, none], [(.int y1), (.ref 18), (.int (fX7_heatOf y1 I)), (.int 99)])) (h' := (107, I, J, mm_rf 19 sp rr w nw)) 2 rfl ?_
    obtain ⟨o2050, eo2050, e⟩ := mm_bind e
    refine mm_T.call (t := 123) (as := [(.ref 18), (.int y1)]) (f' := (60, [some (.ref 18), some (.int y1), some (.int y2), some (.int y3), some (.int u0), none, none, none, none, none], [(.int (fX7_heatOf y1 I)), (.int 99)])) rfl (tX7_nextWarmth (d + 0) n y1 I J 19 sp rr w nw (Or.inr rfl) o2050 eo2050) (fun v h hq => ?_)
    obtain ⟨rfl, rfl⟩ := hq
    refine mm_T.seg (f' := (61, [some (.ref 18), some (.int y1), some (.int y2), some (.int y3), some (.int u0), none, none, none, none, none], [(.int ((fX7_heatOf y1 I) + o2050.1)), (.int 99)])) (h' := (107, o2050.2, J, mm_rf 19 sp rr w nw)) 1 rfl ?_
    refine mm_T.call (t := 348) (as := [(.int 99), (.int ((fX7_heatOf y1 I) + o2050.1))]) (f' := (64, [some (.ref 18), some (.int y1), some (.int y2), some (.int y3), some (.int u0), none, none, none, none, none], [])) rfl (tJ9_min (d + 3) 99 ((fX7_heatOf y1 I) + o2050.1) o2050.2 J 19 sp rr w nw _ rfl) (fun v h hq => ?_)
    obtain ⟨rfl, rfl⟩ := hq
    refine mm_T.seg (f' := (70, [some (.ref 18), some (.int y1), some (.int y2), some (.int y3), some (.int u0), some (.int (fJ9_min 99 ((fX7_heatOf y1 I) + o2050.1))), none, none, none, none], [(.ref 19)])) (h' := (107, o2050.2, J, mm_rf 19 sp rr w nw)) 3 rfl ?_
    refine mm_T.seg (f' := (72, [some (.ref 18), some (.int y1), some (.int y2), some (.int y3), some (.int u0), some (.int (fJ9_min 99 ((fX7_heatOf y1 I) + o2050.1))), none, none, none, none], [(.int y1), (.ref 18), (.ref 19)])) (h' := (107, o2050.2, J, mm_rf 19 sp rr w nw)) 2 rfl ?_
    refine mm_T.call (t := 105) (as := [(.ref 18), (.int y1)]) (f' := (75, [some (.ref 18), some (.int y1), some (.int y2), some (.int y3), some (.int u0), some (.int (fJ9_min 99 ((fX7_heatOf y1 I) + o2050.1))), none, none, none, none], [(.ref 19)])) rfl (tX7_columnOf (d + 1) y1 o2050.2 J 19 sp rr w nw _ rfl) (fun v h hq => ?_)
    obtain ⟨rfl, rfl⟩ := hq
    refine mm_T.seg (f' := (77, [some (.ref 18), some (.int y1), some (.int y2), some (.int y3), some (.int u0), some (.int (fJ9_min 99 ((fX7_heatOf y1 I) + o2050.1))), none, none, none, none], [(.int y1), (.ref 18), (.int (fX7_columnOf y1 o2050.2)), (.ref 19)])) (h' := (107, o2050.2, J, mm_rf 19 sp rr w nw)) 2 rfl ?_
    refine mm_T.call (t := 106) (as := [(.ref 18), (.int y1)]) (f' := (80, [some (.ref 18), some (.int y1), some (.int y2), some (.int y3), some (.int u0), some (.int (fJ9_min 99 ((fX7_heatOf y1 I) + o2050.1))), none, none, none, none], [(.int (fX7_columnOf y1 o2050.2)), (.ref 19)])) rfl (tX7_rowOf (d + 1) y1 o2050.2 J 19 sp rr w nw _ rfl) (fun v h hq => ?_)
    obtain ⟨rfl, rfl⟩ := hq
    refine mm_T.seg (f' := (83, [some (.ref 18), some (.int y1), some (.int y2), some (.int y3), some (.int u0), some (.int (fJ9_min 99 ((fX7_heatOf y1 I) + o2050.1))), none, none, none, none], [(.int u0), (.int y2), (.int (fX7_rowOf y1 o2050.2)), (.int (fX7_columnOf y1 o2050.2)), (.ref 19)])) (h' := (107, o2050.2, J, mm_rf 19 sp rr w nw)) 2 rfl ?_
    refine mm_T.call (t := 81) (as := [(.ref 19), (.int (fX7_columnOf y1 o2050.2)), (.int (fX7_rowOf y1 o2050.2)), (.int y2), (.int u0)]) (f' := (86, [some (.ref 18), some (.int y1), some (.int y2), some (.int y3), some (.int u0), some (.int (fJ9_min 99 ((fX7_heatOf y1 I) + o2050.1))), none, none, none, none], [])) rfl (tX5_leadsTo (d + 2) (fX7_columnOf y1 o2050.2) (fX7_rowOf y1 o2050.2) y2 u0 19 o2050.2 J 19 sp rr w nw (Or.inr rfl) _ rfl) (fun v h hq => ?_)
    obtain ⟨rfl, rfl⟩ := hq
    refine mm_T.seg (f' := (90, [some (.ref 18), some (.int y1), some (.int y2), some (.int y3), some (.int u0), some (.int (fJ9_min 99 ((fX7_heatOf y1 I) + o2050.1))), some (.int (fX5_leadsTo (fX7_columnOf y1 o2050.2) (fX7_rowOf y1 o2050.2) y2 u0 19 o2050.2)), none, none, none], [(.int y1), (.ref 18)])) (h' := (107, o2050.2, J, mm_rf 19 sp rr w nw)) 3 rfl ?_
    refine mm_T.call (t := 106) (as := [(.ref 18), (.int y1)]) (f' := (93, [some (.ref 18), some (.int y1), some (.int y2), some (.int y3), some (.int u0), some (.int (fJ9_min 99 ((fX7_heatOf y1 I) + o2050.1))), some (.int (fX5_leadsTo (fX7_columnOf y1 o2050.2) (fX7_rowOf y1 o2050.2) y2 u0 19 o2050.2)), none, none, none], [])) rfl (tX7_rowOf (d + 1) y1 o2050.2 J 19 sp rr w nw _ rfl) (fun v h hq => ?_)
    obtain ⟨rfl, rfl⟩ := hq
    refine mm_T.seg (f' := (94, [some (.ref 18), some (.int y1), some (.int y2), some (.int y3), some (.int u0), some (.int (fJ9_min 99 ((fX7_heatOf y1 I) + o2050.1))), some (.int (fX5_leadsTo (fX7_columnOf y1 o2050.2) (fX7_rowOf y1 o2050.2) y2 u0 19 o2050.2)), none, none, none], [(.int y3), (.int (fX7_rowOf y1 o2050.2))])) (h' := (107, o2050.2, J, mm_rf 19 sp rr w nw)) 1 rfl ?_
    refine mm_T.br (c := y3 = 0) (a := ((101, [some (.ref 18), some (.int y1), some (.int y2), some (.int y3), some (.int u0), some (.int (fJ9_min 99 ((fX7_heatOf y1 I) + o2050.1))), some (.int (fX5_leadsTo (fX7_columnOf y1 o2050.2) (fX7_rowOf y1 o2050.2) y2 u0 19 o2050.2)), none, none, none], [(.int (fX7_rowOf y1 o2050.2))]), (107, o2050.2, J, mm_rf 19 sp rr w nw))) (b := ((97, [some (.ref 18), some (.int y1), some (.int y2), some (.int y3), some (.int u0), some (.int (fJ9_min 99 ((fX7_heatOf y1 I) + o2050.1))), some (.int (fX5_leadsTo (fX7_columnOf y1 o2050.2) (fX7_rowOf y1 o2050.2) y2 u0 19 o2050.2)), none, none, none], [(.int (fX7_rowOf y1 o2050.2))]), (107, o2050.2, J, mm_rf 19 sp rr w nw))) rfl (fun h2051 => ?_) (fun h2051 => ?_)
    · rw [if_pos h2051] at e
      refine mm_T.seg (f' := (102, [some (.ref 18), some (.int y1), some (.int y2), some (.int y3), some (.int u0), some (.int (fJ9_min 99 ((fX7_heatOf y1 I) + o2050.1))), some (.int (fX5_leadsTo (fX7_columnOf y1 o2050.2) (fX7_rowOf y1 o2050.2) y2 u0 19 o2050.2)), none, none, none], [(.int (-1)), (.int (fX7_rowOf y1 o2050.2))])) (h' := (107, o2050.2, J, mm_rf 19 sp rr w nw)) 1 rfl ?_
      refine mm_T.mask [true, true, false, false, false, true, true, false, false, false] ?_
      exact tbX7_makeStroke_J102 d y1 (fJ9_min 99 ((fX7_heatOf y1 I) + o2050.1)) (fX5_leadsTo (fX7_columnOf y1 o2050.2) (fX7_rowOf y1 o2050.2) y2 u0 19 o2050.2) (-1) (fX7_rowOf y1 o2050.2) o2050.2 J 19 sp rr w nw (Or.inr rfl) out e
    · rw [if_neg h2051] at e
      refine mm_T.seg (f' := (102, [some (.ref 18), some (.int y1), some (.int y2), some (.int y3), some (.int u0), some (.int (fJ9_min 99 ((fX7_heatOf y1 I) + o2050.1))), some (.int (fX5_leadsTo (fX7_columnOf y1 o2050.2) (fX7_rowOf y1 o2050.2) y2 u0 19 o2050.2)), none, none, none], [(.int 1), (.int (fX7_rowOf y1 o2050.2))])) (h' := (107, o2050.2, J, mm_rf 19 sp rr w nw)) 2 rfl ?_
      refine mm_T.mask [true, true, false, false, false, true, true, false, false, false] ?_
      exact tbX7_makeStroke_J102 d y1 (fJ9_min 99 ((fX7_heatOf y1 I) + o2050.1)) (fX5_leadsTo (fX7_columnOf y1 o2050.2) (fX7_rowOf y1 o2050.2) y2 u0 19 o2050.2) 1 (fX7_rowOf y1 o2050.2) o2050.2 J 19 sp rr w nw (Or.inr rfl) out e
set_option maxRecDepth 100000 in
set_option maxHeartbeats 4000000 in
theorem tX7_makeStroke (d n : Nat) (x1 : Int32) (x2 : Int32) (x3 : Int32) (I : Nat → Nat → Int32) (J : Nat → Nat → Int64) (rv sp rr w nw : Nat) (hrv : rv = 3 ∨ rv = 19) (out : Int32 × (Nat → Nat → Int32)) (e : fX7_makeStroke n x1 x2 x3 I rv = some out) : mm_T none (d + 4) 124 (mm_ent 124 [(.ref 18), (.int x1), (.int x2), (.int x3)]) (107, I, J, mm_rf rv sp rr w nw) (fun v h => v = some (.int out.1) ∧ h = (107, out.2, J, mm_rf rv sp rr w nw)) := by
  rcases hrv with rfl | rfl
  · unfold fX7_makeStroke at e
    refine mm_T.seg (f' := (4, [some (.ref 18), some (.int x1), some (.int x2), some (.int x3), none, none, none, none, none, none], [(.ref 32)])) (h' := (107, I, J, mm_rf 3 sp rr w nw)) 2 rfl ?_
    refine mm_T.seg (f' := (7, [some (.ref 18), some (.int x1), some (.int x2), some (.int x3), none, none, none, none, none, none], [(.ref 18), (.int 27), (.ref 32)])) (h' := (107, I, J, mm_rf 3 sp rr w nw)) 2 rfl ?_
    refine mm_T.call (t := 114) (as := [(.ref 18)]) (f' := (10, [some (.ref 18), some (.int x1), some (.int x2), some (.int x3), none, none, none, none, none, none], [(.int 27), (.ref 32)])) rfl (tX7_seed (d + 2) I J 3 sp rr w nw _ rfl) (fun v h hq => ?_)
    obtain ⟨rfl, rfl⟩ := hq
    refine mm_T.seg (f' := (21, [some (.ref 18), some (.int x1), some (.int x2), some (.int x3), none, none, none, none, none, none], [(.int ((((fX7_seed I) * 137) + 71) - (((fX7_seed I) * 137) + 71) / 1000 * 1000)), (.int 27), (.ref 32)])) (h' := (107, I, J, mm_rf 3 sp rr w nw)) 6 rfl ?_
    refine mm_T.call (t := 205) (as := [(.ref 32), (.int 27), (.int ((((fX7_seed I) * 137) + 71) - (((fX7_seed I) * 137) + 71) / 1000 * 1000))]) (f' := (24, [some (.ref 18), some (.int x1), some (.int x2), some (.int x3), none, none, none, none, none, none], [])) rfl (t_put _ 32 28 27 ((((fX7_seed I) * 137) + 71) - (((fX7_seed I) * 137) + 71) / 1000 * 1000) I J (mm_rf 3 sp rr w nw) rfl rfl) (fun v h hq => ?_)
    obtain ⟨rfl, rfl⟩ := hq
    refine mm_T.seg (f' := (25, [some (.ref 18), some (.int x1), some (.int x2), some (.int x3), none, none, none, none, none, none], [(.ref 18)])) (h' := (107, (mf_put I 32 28 27 ((((fX7_seed I) * 137) + 71) - (((fX7_seed I) * 137) + 71) / 1000 * 1000)), J, mm_rf 3 sp rr w nw)) 1 rfl ?_
    refine mm_T.call (t := 114) (as := [(.ref 18)]) (f' := (28, [some (.ref 18), some (.int x1), some (.int x2), some (.int x3), none, none, none, none, none, none], [])) rfl (tX7_seed (d + 2) (mf_put I 32 28 27 ((((fX7_seed I) * 137) + 71) - (((fX7_seed I) * 137) + 71) / 1000 * 1000)) J 3 sp rr w nw _ rfl) (fun v h hq => ?_)
    obtain ⟨rfl, rfl⟩ := hq
    refine mm_T.seg (f' := (35, [some (.ref 18), some (.int x1), some (.int x2), some (.int x3), none, none, none, none, none, none], [(.ref 3), (.int ((fX7_seed (mf_put I 32 28 27 ((((fX7_seed I) * 137) + 71) - (((fX7_seed I) * 137) + 71) / 1000 * 1000))) - (fX7_seed (mf_put I 32 28 27 ((((fX7_seed I) * 137) + 71) - (((fX7_seed I) * 137) + 71) / 1000 * 1000))) / 100 * 100))])) (h' := (107, (mf_put I 32 28 27 ((((fX7_seed I) * 137) + 71) - (((fX7_seed I) * 137) + 71) / 1000 * 1000)), J, mm_rf 3 sp rr w nw)) 4 rfl ?_
    refine mm_T.seg (f' := (38, [some (.ref 18), some (.int x1), some (.int x2), some (.int x3), none, none, none, none, none, none], [(.int ((mf_put I 32 28 27 ((((fX7_seed I) * 137) + 71) - (((fX7_seed I) * 137) + 71) / 1000 * 1000)) 3 6)), (.int ((fX7_seed (mf_put I 32 28 27 ((((fX7_seed I) * 137) + 71) - (((fX7_seed I) * 137) + 71) / 1000 * 1000))) - (fX7_seed (mf_put I 32 28 27 ((((fX7_seed I) * 137) + 71) - (((fX7_seed I) * 137) + 71) / 1000 * 1000))) / 100 * 100))])) (h' := (107, (mf_put I 32 28 27 ((((fX7_seed I) * 137) + 71) - (((fX7_seed I) * 137) + 71) / 1000 * 1000)), J, mm_rf 3 sp rr w nw)) 1 rfl ?_
    refine mm_T.br (c := ((fX7_seed (mf_put I 32 28 27 ((((fX7_seed I) * 137) + 71) - (((fX7_seed I) * 137) + 71) / 1000 * 1000))) - (fX7_seed (mf_put I 32 28 27 ((((fX7_seed I) * 137) + 71) - (((fX7_seed I) * 137) + 71) / 1000 * 1000))) / 100 * 100) < ((mf_put I 32 28 27 ((((fX7_seed I) * 137) + 71) - (((fX7_seed I) * 137) + 71) / 1000 * 1000)) 3 6)) (a := ((41, [some (.ref 18), some (.int x1), some (.int x2), some (.int x3), none, none, none, none, none, none], []), (107, (mf_put I 32 28 27 ((((fX7_seed I) * 137) + 71) - (((fX7_seed I) * 137) + 71) / 1000 * 1000)), J, mm_rf 3 sp rr w nw))) (b := ((45, [some (.ref 18), some (.int x1), some (.int x2), some (.int x3), none, none, none, none, none, none], []), (107, (mf_put I 32 28 27 ((((fX7_seed I) * 137) + 71) - (((fX7_seed I) * 137) + 71) / 1000 * 1000)), J, mm_rf 3 sp rr w nw))) rfl (fun h2049 => ?_) (fun h2049 => ?_)
    · rw [if_pos h2049] at e
      refine mm_T.seg (f' := (46, [some (.ref 18), some (.int x1), some (.int x2), some (.int x3), none, none, none, none, none, none], [(.int 2)])) (h' := (107, (mf_put I 32 28 27 ((((fX7_seed I) * 137) + 71) - (((fX7_seed I) * 137) + 71) / 1000 * 1000)), J, mm_rf 3 sp rr w nw)) 2 rfl ?_
      refine mm_T.mask [true, true, true, true, false, false, false, false, false, false] ?_
      exact tbX7_makeStroke_J46 d n x1 x2 x3 2 (mf_put I 32 28 27 ((((fX7_seed I) * 137) + 71) - (((fX7_seed I) * 137) + 71) / 1000 * 1000)) J 3 sp rr w nw (Or.inl rfl) out e
    · rw [if_neg h2049] at e
      refine mm_T.seg (f' := (46, [some (.ref 18), some (.int x1), some (.int x2), some (.int x3), none, none, none, none, none, none], [(.int 1)])) (h' := (107, (mf_put I 32 28 27 ((((fX7_seed I) * 137) + 71) - (((fX7_seed I) * 137) + 71) / 1000 * 1000)), J, mm_rf 3 sp rr w nw)) 1 rfl ?_
      refine mm_T.mask [true, true, true, true, false, false, false, false, false, false] ?_
      exact tbX7_makeStroke_J46 d n x1 x2 x3 1 (mf_put I 32 28 27 ((((fX7_seed I) * 137) + 71) - (((fX7_seed I) * 137) + 71) / 1000 * 1000)) J 3 sp rr w nw (Or.inl rfl) out e
  · unfold fX7_makeStroke at e
    refine mm_T.seg (f' := (4, [some (.ref 18), some (.int x1), some (.int x2), some (.int x3), none, none, none, none, none, none], [(.ref 32)])) (h' := (107, I, J, mm_rf 19 sp rr w nw)) 2 rfl ?_
    refine mm_T.seg (f' := (7, [some (.ref 18), some (.int x1), some (.int x2), some (.int x3), none, none, none, none, none, none], [(.ref 18), (.int 27), (.ref 32)])) (h' := (107, I, J, mm_rf 19 sp rr w nw)) 2 rfl ?_
    refine mm_T.call (t := 114) (as := [(.ref 18)]) (f' := (10, [some (.ref 18), some (.int x1), some (.int x2), some (.int x3), none, none, none, none, none, none], [(.int 27), (.ref 32)])) rfl (tX7_seed (d + 2) I J 19 sp rr w nw _ rfl) (fun v h hq => ?_)
    obtain ⟨rfl, rfl⟩ := hq
    refine mm_T.seg (f' := (21, [some (.ref 18), some (.int x1), some (.int x2), some (.int x3), none, none, none, none, none, none], [(.int ((((fX7_seed I) * 137) + 71) - (((fX7_seed I) * 137) + 71) / 1000 * 1000)), (.int 27), (.ref 32)])) (h' := (107, I, J, mm_rf 19 sp rr w nw)) 6 rfl ?_
    refine mm_T.call (t := 205) (as := [(.ref 32), (.int 27), (.int ((((fX7_seed I) * 137) + 71) - (((fX7_seed I) * 137) + 71) / 1000 * 1000))]) (f' := (24, [some (.ref 18), some (.int x1), some (.int x2), some (.int x3), none, none, none, none, none, none], [])) rfl (t_put _ 32 28 27 ((((fX7_seed I) * 137) + 71) - (((fX7_seed I) * 137) + 71) / 1000 * 1000) I J (mm_rf 19 sp rr w nw) rfl rfl) (fun v h hq => ?_)
    obtain ⟨rfl, rfl⟩ := hq
    refine mm_T.seg (f' := (25, [some (.ref 18), some (.int x1), some (.int x2), some (.int x3), none, none, none, none, none, none], [(.ref 18)])) (h' := (107, (mf_put I 32 28 27 ((((fX7_seed I) * 137) + 71) - (((fX7_seed I) * 137) + 71) / 1000 * 1000)), J, mm_rf 19 sp rr w nw)) 1 rfl ?_
    refine mm_T.call (t := 114) (as := [(.ref 18)]) (f' := (28, [some (.ref 18), some (.int x1), some (.int x2), some (.int x3), none, none, none, none, none, none], [])) rfl (tX7_seed (d + 2) (mf_put I 32 28 27 ((((fX7_seed I) * 137) + 71) - (((fX7_seed I) * 137) + 71) / 1000 * 1000)) J 19 sp rr w nw _ rfl) (fun v h hq => ?_)
    obtain ⟨rfl, rfl⟩ := hq
    refine mm_T.seg (f' := (35, [some (.ref 18), some (.int x1), some (.int x2), some (.int x3), none, none, none, none, none, none], [(.ref 19), (.int ((fX7_seed (mf_put I 32 28 27 ((((fX7_seed I) * 137) + 71) - (((fX7_seed I) * 137) + 71) / 1000 * 1000))) - (fX7_seed (mf_put I 32 28 27 ((((fX7_seed I) * 137) + 71) - (((fX7_seed I) * 137) + 71) / 1000 * 1000))) / 100 * 100))])) (h' := (107, (mf_put I 32 28 27 ((((fX7_seed I) * 137) + 71) - (((fX7_seed I) * 137) + 71) / 1000 * 1000)), J, mm_rf 19 sp rr w nw)) 4 rfl ?_
    refine mm_T.seg (f' := (38, [some (.ref 18), some (.int x1), some (.int x2), some (.int x3), none, none, none, none, none, none], [(.int ((mf_put I 32 28 27 ((((fX7_seed I) * 137) + 71) - (((fX7_seed I) * 137) + 71) / 1000 * 1000)) 19 6)), (.int ((fX7_seed (mf_put I 32 28 27 ((((fX7_seed I) * 137) + 71) - (((fX7_seed I) * 137) + 71) / 1000 * 1000))) - (fX7_seed (mf_put I 32 28 27 ((((fX7_seed I) * 137) + 71) - (((fX7_seed I) * 137) + 71) / 1000 * 1000))) / 100 * 100))])) (h' := (107, (mf_put I 32 28 27 ((((fX7_seed I) * 137) + 71) - (((fX7_seed I) * 137) + 71) / 1000 * 1000)), J, mm_rf 19 sp rr w nw)) 1 rfl ?_
    refine mm_T.br (c := ((fX7_seed (mf_put I 32 28 27 ((((fX7_seed I) * 137) + 71) - (((fX7_seed I) * 137) + 71) / 1000 * 1000))) - (fX7_seed (mf_put I 32 28 27 ((((fX7_seed I) * 137) + 71) - (((fX7_seed I) * 137) + 71) / 1000 * 1000))) / 100 * 100) < ((mf_put I 32 28 27 ((((fX7_seed I) * 137) + 71) - (((fX7_seed I) * 137) + 71) / 1000 * 1000)) 19 6)) (a := ((41, [some (.ref 18), some (.int x1), some (.int x2), some (.int x3), none, none, none, none, none, none], []), (107, (mf_put I 32 28 27 ((((fX7_seed I) * 137) + 71) - (((fX7_seed I) * 137) + 71) / 1000 * 1000)), J, mm_rf 19 sp rr w nw))) (b := ((45, [some (.ref 18), some (.int x1), some (.int x2), some (.int x3), none, none, none, none, none, none], []), (107, (mf_put I 32 28 27 ((((fX7_seed I) * 137) + 71) - (((fX7_seed I) * 137) + 71) / 1000 * 1000)), J, mm_rf 19 sp rr w nw))) rfl (fun h2049 => ?_) (fun h2049 => ?_)
    · rw [if_pos h2049] at e
      refine mm_T.seg (f' := (46, [some (.ref 18), some (.int x1), some (.int x2), some (.int x3), none, none, none, none, none, none], [(.int 2)])) (h' := (107, (mf_put I 32 28 27 ((((fX7_seed I) * 137) + 71) - (((fX7_seed I) * 137) + 71) / 1000 * 1000)), J, mm_rf 19 sp rr w nw)) 2 rfl ?_
      refine mm_T.mask [true, true, true, true, false, false, false, false, false, false] ?_
      exact tbX7_makeStroke_J46 d n x1 x2 x3 2 (mf_put I 32 28 27 ((((fX7_seed I) * 137) + 71) - (((fX7_seed I) * 137) + 71) / 1000 * 1000)) J 19 sp rr w nw (Or.inr rfl) out e
    · rw [if_neg h2049] at e
      refine mm_T.seg (f' := (46, [some (.ref 18), some (.int x1), some (.int x2), some (.int x3), none, none, none, none, none, none], [(.int 1)])) (h' := (107, (mf_put I 32 28 27 ((((fX7_seed I) * 137) + 71) - (((fX7_seed I) * 137) + 71) / 1000 * 1000)), J, mm_rf 19 sp rr w nw)) 1 rfl ?_
      refine mm_T.mask [true, true, true, true, false, false, false, false, false, false] ?_
      exact tbX7_makeStroke_J46 d n x1 x2 x3 1 (mf_put I 32 28 27 ((((fX7_seed I) * 137) + 71) - (((fX7_seed I) * 137) + 71) / 1000 * 1000)) J 19 sp rr w nw (Or.inr rfl) out e
set_option maxRecDepth 100000 in
set_option maxHeartbeats 4000000 in
theorem tlX8_noteIfCooler_L55 (d : Nat) (Q : Option Value → mm_H → Prop) : ∀ (n : Nat) (y4 : Int32) (I : Nat → Nat → Int32) (J : Nat → Nat → Int64) (rv sp rr w nw : Nat), ∀ (out : (Nat → Nat → Int32)), fX8_noteIfCooler_L55 n y4 I = some out → mm_T none (d + 1) 128 (86, [none, none, none, none, none], []) (107, out, J, mm_rf rv sp rr w nw) Q → mm_T none (d + 1) 128 (55, [some (.ref 42), none, none, none, some (.int y4)], []) (107, I, J, mm_rf rv sp rr w nw) Q := by
  intro n
  induction n with
  | zero =>
    intro y4 I J rv sp rr w nw out e k
    rw [fX8_noteIfCooler_L55] at e; cases e
  | succ n ih =>
    intro y4 I J rv sp rr w nw out e k
    rw [fX8_noteIfCooler_L55] at e
    refine mm_T.seg (f' := (59, [some (.ref 42), none, none, none, some (.int y4)], [(.int 6), (.int y4)])) (h' := (107, I, J, mm_rf rv sp rr w nw)) 2 rfl ?_
    refine mm_T.br (c := y4 < 6) (a := ((62, [some (.ref 42), none, none, none, some (.int y4)], []), (107, I, J, mm_rf rv sp rr w nw))) (b := ((86, [some (.ref 42), none, none, none, some (.int y4)], []), (107, I, J, mm_rf rv sp rr w nw))) rfl (fun h2075 => ?_) (fun h2075 => ?_)
    · rw [if_pos h2075] at e
      refine mm_T.seg (f' := (66, [some (.ref 42), none, none, none, some (.int y4)], [(.ref 44)])) (h' := (107, I, J, mm_rf rv sp rr w nw)) 2 rfl ?_
      refine mm_T.seg (f' := (72, [some (.ref 42), none, none, none, some (.int y4)], [(.ref 43), (.int y4), (.ref 44)])) (h' := (107, I, J, mm_rf rv sp rr w nw)) 3 rfl ?_
      refine mm_T.seg (f' := (74, [some (.ref 42), none, none, none, some (.int y4)], [(.int y4), (.ref 43), (.int y4), (.ref 44)])) (h' := (107, I, J, mm_rf rv sp rr w nw)) 1 rfl ?_
      refine mm_T.call (t := 204) (as := [(.ref 43), (.int y4)]) (f' := (77, [some (.ref 42), none, none, none, some (.int y4)], [(.int y4), (.ref 44)])) rfl (t_pick _ 43 6 y4 I J (mm_rf rv sp rr w nw) rfl rfl) (fun v h hq => ?_)
      obtain ⟨rfl, rfl⟩ := hq
      refine mm_T.call (t := 205) (as := [(.ref 44), (.int y4), (.int (mf_pick I 43 6 y4))]) (f' := (80, [some (.ref 42), none, none, none, some (.int y4)], [])) rfl (t_put _ 44 6 y4 (mf_pick I 43 6 y4) I J (mm_rf rv sp rr w nw) rfl rfl) (fun v h hq => ?_)
      obtain ⟨rfl, rfl⟩ := hq
      refine mm_T.seg (f' := (55, [some (.ref 42), none, none, none, some (.int (y4 + 1))], [])) (h' := (107, (mf_put I 44 6 y4 (mf_pick I 43 6 y4)), J, mm_rf rv sp rr w nw)) 2 rfl ?_
      refine mm_T.mask [true, false, false, false, true] ?_
      exact ih (y4 + 1) (mf_put I 44 6 y4 (mf_pick I 43 6 y4)) J rv sp rr w nw out e k
    · rw [if_neg h2075] at e
      cases e
      refine mm_T.mask [false, false, false, false, false] ?_
      exact k
set_option maxRecDepth 100000 in
set_option maxHeartbeats 4000000 in
theorem tX8_noteIfCooler (d n : Nat) (x1 : Int32) (x2 : Int32) (x3 : Int32) (I : Nat → Nat → Int32) (J : Nat → Nat → Int64) (rv sp rr w nw : Nat) (out : (Nat → Nat → Int32)) (e : fX8_noteIfCooler n x1 x2 x3 I = some out) : mm_T none (d + 1) 128 (mm_ent 128 [(.ref 42), (.int x1), (.int x2), (.int x3)]) (107, I, J, mm_rf rv sp rr w nw) (fun v h => v = none ∧ h = (107, out, J, mm_rf rv sp rr w nw)) := by
  unfold fX8_noteIfCooler at e
  refine mm_T.seg (f' := (4, [some (.ref 42), some (.int x1), some (.int x2), some (.int x3), none], [(.int (I 42 4))])) (h' := (107, I, J, mm_rf rv sp rr w nw)) 2 rfl ?_
  refine mm_T.br (c := (I 42 4) = 0) (a := ((32, [some (.ref 42), some (.int x1), some (.int x2), some (.int x3), none], []), (107, I, J, mm_rf rv sp rr w nw))) (b := ((7, [some (.ref 42), some (.int x1), some (.int x2), some (.int x3), none], []), (107, I, J, mm_rf rv sp rr w nw))) rfl (fun h2074 => ?_) (fun h2074 => ?_)
  · rw [if_pos h2074] at e
    refine mm_T.seg (f' := (55, [some (.ref 42), some (.int x1), some (.int x2), some (.int x3), some (.int 0)], [])) (h' := (107, (mm_up (mm_up (mm_up (mm_up I 42 4 1) 42 6 x3) 42 7 x2) 42 8 x1), J, mm_rf rv sp rr w nw)) 14 rfl ?_
    refine mm_T.mask [true, false, false, false, true] ?_
    obtain ⟨o2076, eo2076, e⟩ := mm_bind e
    refine tlX8_noteIfCooler_L55 d _ n 0 (mm_up (mm_up (mm_up (mm_up I 42 4 1) 42 6 x3) 42 7 x2) 42 8 x1) J rv sp rr w nw o2076 eo2076 ?_
    cases e
    exact mm_T.ret rfl ⟨rfl, rfl⟩
  · rw [if_neg h2074] at e
    refine mm_T.seg (f' := (12, [some (.ref 42), some (.int x1), some (.int x2), some (.int x3), none], [(.int (I 42 6)), (.int x3)])) (h' := (107, I, J, mm_rf rv sp rr w nw)) 3 rfl ?_
    refine mm_T.br (c := (I 42 6) < x3) (a := ((31, [some (.ref 42), some (.int x1), some (.int x2), some (.int x3), none], []), (107, I, J, mm_rf rv sp rr w nw))) (b := ((15, [some (.ref 42), some (.int x1), some (.int x2), some (.int x3), none], []), (107, I, J, mm_rf rv sp rr w nw))) rfl (fun h2077 => ?_) (fun h2077 => ?_)
    · rw [if_pos h2077] at e
      cases e
      exact mm_T.ret rfl ⟨rfl, rfl⟩
    · rw [if_neg h2077] at e
      refine mm_T.seg (f' := (20, [some (.ref 42), some (.int x1), some (.int x2), some (.int x3), none], [(.int (I 42 6)), (.int x3)])) (h' := (107, I, J, mm_rf rv sp rr w nw)) 3 rfl ?_
      refine mm_T.br (c := x3 = (I 42 6)) (a := ((23, [some (.ref 42), some (.int x1), some (.int x2), some (.int x3), none], []), (107, I, J, mm_rf rv sp rr w nw))) (b := ((32, [some (.ref 42), some (.int x1), some (.int x2), some (.int x3), none], []), (107, I, J, mm_rf rv sp rr w nw))) rfl (fun h2078 => ?_) (fun h2078 => ?_)
      · rw [if_pos h2078] at e
        refine mm_T.seg (f' := (28, [some (.ref 42), some (.int x1), some (.int x2), some (.int x3), none], [(.int (I 42 7)), (.int x2)])) (h' := (107, I, J, mm_rf rv sp rr w nw)) 3 rfl ?_
        refine mm_T.br (c := x2 < (I 42 7)) (a := ((32, [some (.ref 42), some (.int x1), some (.int x2), some (.int x3), none], []), (107, I, J, mm_rf rv sp rr w nw))) (b := ((31, [some (.ref 42), some (.int x1), some (.int x2), some (.int x3), none], []), (107, I, J, mm_rf rv sp rr w nw))) rfl (fun h2079 => ?_) (fun h2079 => ?_)
        · rw [if_pos h2079] at e
          refine mm_T.seg (f' := (55, [some (.ref 42), some (.int x1), some (.int x2), some (.int x3), some (.int 0)], [])) (h' := (107, (mm_up (mm_up (mm_up (mm_up I 42 4 1) 42 6 x3) 42 7 x2) 42 8 x1), J, mm_rf rv sp rr w nw)) 14 rfl ?_
          refine mm_T.mask [true, false, false, false, true] ?_
          obtain ⟨o2080, eo2080, e⟩ := mm_bind e
          refine tlX8_noteIfCooler_L55 d _ n 0 (mm_up (mm_up (mm_up (mm_up I 42 4 1) 42 6 x3) 42 7 x2) 42 8 x1) J rv sp rr w nw o2080 eo2080 ?_
          cases e
          exact mm_T.ret rfl ⟨rfl, rfl⟩
        · rw [if_neg h2079] at e
          cases e
          exact mm_T.ret rfl ⟨rfl, rfl⟩
      · rw [if_neg h2078] at e
        refine mm_T.seg (f' := (55, [some (.ref 42), some (.int x1), some (.int x2), some (.int x3), some (.int 0)], [])) (h' := (107, (mm_up (mm_up (mm_up (mm_up I 42 4 1) 42 6 x3) 42 7 x2) 42 8 x1), J, mm_rf rv sp rr w nw)) 14 rfl ?_
        refine mm_T.mask [true, false, false, false, true] ?_
        obtain ⟨o2081, eo2081, e⟩ := mm_bind e
        refine tlX8_noteIfCooler_L55 d _ n 0 (mm_up (mm_up (mm_up (mm_up I 42 4 1) 42 6 x3) 42 7 x2) 42 8 x1) J rv sp rr w nw o2081 eo2081 ?_
        cases e
        exact mm_T.ret rfl ⟨rfl, rfl⟩
set_option maxRecDepth 100000 in
set_option maxHeartbeats 4000000 in
theorem tlX8_goOn_L132 (d : Nat) (Q : Option Value → mm_H → Prop) (rec : Int32 → Int32 → Int32 → Int32 → (Nat → Nat → Int32) → Nat → Option ((Nat → Nat → Int32))) (hrec : ∀ (x1 : Int32) (x2 : Int32) (x3 : Int32) (x4 : Int32) (I : Nat → Nat → Int32) (J : Nat → Nat → Int64) (rv sp rr w nw : Nat), (rv = 3 ∨ rv = 19) → ∀ (out : (Nat → Nat → Int32)), rec x1 x2 x3 x4 I rv = some out → mm_T none d 127 (mm_ent 127 [(.ref 42), (.int x1), (.int x2), (.int x3), (.int x4)]) (107, I, J, mm_rf rv sp rr w nw) (fun v h => v = none ∧ h = (107, out, J, mm_rf rv sp rr w nw))) : ∀ (n : Nat) (y1 : Int32) (y2 : Int32) (y4 : Int32) (y6 : Int32) (y8 : Int32) (y9 : Int32) (y10 : Int32) (I : Nat → Nat → Int32) (J : Nat → Nat → Int64) (rv sp rr w nw : Nat), (rv = 3 ∨ rv = 19) → ∀ (out : (Nat → Nat → Int32)), fX8_goOn_L132 n rec y1 y2 y4 y6 y8 y9 y10 I rv = some out → mm_T none (d + 4) 127 (215, [none, none, none, none, none, none, none, none, none, none, none, none], []) (107, out, J, mm_rf rv sp rr w nw) Q → mm_T none (d + 4) 127 (132, [some (.ref 42), some (.int y1), some (.int y2), none, some (.int y4), some (.ref rv), some (.int y6), none, some (.int y8), some (.int y9), some (.int y10), none], []) (107, I, J, mm_rf rv sp rr w nw) Q := by
  intro n
  induction n with
  | zero =>
    intro y1 y2 y4 y6 y8 y9 y10 I J rv sp rr w nw hrv out e k
    rw [fX8_goOn_L132] at e; cases e
  | succ n ih =>
    intro y1 y2 y4 y6 y8 y9 y10 I J rv sp rr w nw hrv out e k
    rcases hrv with rfl | rfl
    · rw [fX8_goOn_L132] at e
      refine mm_T.seg (f' := (135, [some (.ref 42), some (.int y1), some (.int y2), none, some (.int y4), some (.ref 3), some (.int y6), none, some (.int y8), some (.int y9), some (.int y10), none], [(.int 1), (.int y10)])) (h' := (107, I, J, mm_rf 3 sp rr w nw)) 2 rfl ?_
      refine mm_T.br (c := 1 < y10) (a := ((215, [some (.ref 42), some (.int y1), some (.int y2), none, some (.int y4), some (.ref 3), some (.int y6), none, some (.int y8), some (.int y9), some (.int y10), none], []), (107, I, J, mm_rf 3 sp rr w nw))) (b := ((138, [some (.ref 42), some (.int y1), some (.int y2), none, some (.int y4), some (.ref 3), some (.int y6), none, some (.int y8), some (.int y9), some (.int y10), none], []), (107, I, J, mm_rf 3 sp rr w nw))) rfl (fun h2063 => ?_) (fun h2063 => ?_)
      · rw [if_pos h2063] at e
        cases e
        refine mm_T.mask [false, false, false, false, false, false, false, false, false, false, false, false] ?_
        exact k
      · rw [if_neg h2063] at e
        refine mm_T.seg (f' := (146, [some (.ref 42), some (.int y1), some (.int y2), none, some (.int y4), some (.ref 3), some (.int y6), none, some (.int y8), some (.int y9), some (.int y10), none], [(.int 1), (.int y10), (.int y6), (.int y2), (.ref 3)])) (h' := (107, I, J, mm_rf 3 sp rr w nw)) 5 rfl ?_
        obtain ⟨g334, hg334⟩ : ∃ z, fX5_leadsTo y2 y6 y10 1 3 I = z := ⟨_, rfl⟩
        try rw [hg334] at e
        refine mm_T.call (t := 81) (as := [(.ref 3), (.int y2), (.int y6), (.int y10), (.int 1)]) (f' := (149, [some (.ref 42), some (.int y1), some (.int y2), none, some (.int y4), some (.ref 3), some (.int y6), none, some (.int y8), some (.int y9), some (.int y10), none], [])) rfl (tX5_leadsTo (d + 2) y2 y6 y10 1 3 I J 3 sp rr w nw (Or.inl rfl) g334 hg334) (fun v h hq => ?_)
        obtain ⟨rfl, rfl⟩ := hq
        refine mm_T.seg (f' := (159, [some (.ref 42), some (.int y1), some (.int y2), none, some (.int y4), some (.ref 3), some (.int y6), none, some (.int y8), some (.int y9), some (.int y10), some (.int g334)], [(.int (y6 + 1)), (.int g334), (.ref 3)])) (h' := (107, I, J, mm_rf 3 sp rr w nw)) 6 rfl ?_
        obtain ⟨g335, hg335⟩ : ∃ z, fX5_ironAt g334 (y6 + 1) 3 I = z := ⟨_, rfl⟩
        try rw [hg335] at e
        refine mm_T.call (t := 69) (as := [(.ref 3), (.int g334), (.int (y6 + 1))]) (f' := (162, [some (.ref 42), some (.int y1), some (.int y2), none, some (.int y4), some (.ref 3), some (.int y6), none, some (.int y8), some (.int y9), some (.int y10), some (.int g334)], [])) rfl (tX5_ironAt (d + 2) g334 (y6 + 1) 3 I J 3 sp rr w nw (Or.inl rfl) g335 hg335) (fun v h hq => ?_)
        obtain ⟨rfl, rfl⟩ := hq
        refine mm_T.br (c := g335 = 0) (a := ((165, [some (.ref 42), some (.int y1), some (.int y2), none, some (.int y4), some (.ref 3), some (.int y6), none, some (.int y8), some (.int y9), some (.int y10), some (.int g334)], []), (107, I, J, mm_rf 3 sp rr w nw))) (b := ((209, [some (.ref 42), some (.int y1), some (.int y2), none, some (.int y4), some (.ref 3), some (.int y6), none, some (.int y8), some (.int y9), some (.int y10), some (.int g334)], []), (107, I, J, mm_rf 3 sp rr w nw))) rfl (fun h2064 => ?_) (fun h2064 => ?_)
        · rw [if_pos h2064] at e
          refine mm_T.seg (f' := (169, [some (.ref 42), some (.int y1), some (.int y2), none, some (.int y4), some (.ref 3), some (.int y6), none, some (.int y8), some (.int y9), some (.int y10), some (.int g334)], [(.ref 43)])) (h' := (107, I, J, mm_rf 3 sp rr w nw)) 2 rfl ?_
          refine mm_T.seg (f' := (172, [some (.ref 42), some (.int y1), some (.int y2), none, some (.int y4), some (.ref 3), some (.int y6), none, some (.int y8), some (.int y9), some (.int y10), some (.int g334)], [(.int y10), (.int y1), (.ref 43)])) (h' := (107, I, J, mm_rf 3 sp rr w nw)) 2 rfl ?_
          refine mm_T.call (t := 205) (as := [(.ref 43), (.int y1), (.int y10)]) (f' := (175, [some (.ref 42), some (.int y1), some (.int y2), none, some (.int y4), some (.ref 3), some (.int y6), none, some (.int y8), some (.int y9), some (.int y10), some (.int g334)], [])) rfl (t_put _ 43 6 y1 y10 I J (mm_rf 3 sp rr w nw) rfl rfl) (fun v h hq => ?_)
          obtain ⟨rfl, rfl⟩ := hq
          refine mm_T.seg (f' := (183, [some (.ref 42), some (.int y1), some (.int y2), none, some (.int y4), some (.ref 3), some (.int y6), none, some (.int y8), some (.int y9), some (.int y10), some (.int g334)], [(.int y9), (.int g334), (.int (y1 + 1)), (.ref 42)])) (h' := (107, (mf_put I 43 6 y1 y10), J, mm_rf 3 sp rr w nw)) 6 rfl ?_
          refine mm_T.br (c := y9 = 0) (a := ((190, [some (.ref 42), some (.int y1), some (.int y2), none, some (.int y4), some (.ref 3), some (.int y6), none, some (.int y8), some (.int y9), some (.int y10), some (.int g334)], [(.int g334), (.int (y1 + 1)), (.ref 42)]), (107, (mf_put I 43 6 y1 y10), J, mm_rf 3 sp rr w nw))) (b := ((186, [some (.ref 42), some (.int y1), some (.int y2), none, some (.int y4), some (.ref 3), some (.int y6), none, some (.int y8), some (.int y9), some (.int y10), some (.int g334)], [(.int g334), (.int (y1 + 1)), (.ref 42)]), (107, (mf_put I 43 6 y1 y10), J, mm_rf 3 sp rr w nw))) rfl (fun h2065 => ?_) (fun h2065 => ?_)
          · rw [if_pos h2065] at e
            refine mm_T.seg (f' := (194, [some (.ref 42), some (.int y1), some (.int y2), none, some (.int y4), some (.ref 3), some (.int y6), none, some (.int y8), some (.int y9), some (.int y10), some (.int g334)], [(.int y9), (.int y8), (.int g334), (.int (y1 + 1)), (.ref 42)])) (h' := (107, (mf_put I 43 6 y1 y10), J, mm_rf 3 sp rr w nw)) 2 rfl ?_
            refine mm_T.br (c := y9 = 0) (a := ((204, [some (.ref 42), some (.int y1), some (.int y2), none, some (.int y4), some (.ref 3), some (.int y6), none, some (.int y8), some (.int y9), some (.int y10), some (.int g334)], [(.int y8), (.int g334), (.int (y1 + 1)), (.ref 42)]), (107, (mf_put I 43 6 y1 y10), J, mm_rf 3 sp rr w nw))) (b := ((197, [some (.ref 42), some (.int y1), some (.int y2), none, some (.int y4), some (.ref 3), some (.int y6), none, some (.int y8), some (.int y9), some (.int y10), some (.int g334)], [(.int y8), (.int g334), (.int (y1 + 1)), (.ref 42)]), (107, (mf_put I 43 6 y1 y10), J, mm_rf 3 sp rr w nw))) rfl (fun h2066 => ?_) (fun h2066 => ?_)
            · rw [if_pos h2066] at e
              refine mm_T.seg (f' := (206, [some (.ref 42), some (.int y1), some (.int y2), none, some (.int y4), some (.ref 3), some (.int y6), none, some (.int y8), some (.int y9), some (.int y10), some (.int g334)], [(.int y4), (.int y8), (.int g334), (.int (y1 + 1)), (.ref 42)])) (h' := (107, (mf_put I 43 6 y1 y10), J, mm_rf 3 sp rr w nw)) 1 rfl ?_
              obtain ⟨o2067, eo2067, e⟩ := mm_bind e
              refine mm_T.call (t := 127) (as := [(.ref 42), (.int (y1 + 1)), (.int g334), (.int y8), (.int y4)]) (f' := (209, [some (.ref 42), some (.int y1), some (.int y2), none, some (.int y4), some (.ref 3), some (.int y6), none, some (.int y8), some (.int y9), some (.int y10), some (.int g334)], [])) rfl (mm_T.deep (hrec (y1 + 1) g334 y8 y4 (mf_put I 43 6 y1 y10) J 3 sp rr w nw (Or.inl rfl) o2067 eo2067) (by omega)) (fun v h hq => ?_)
              obtain ⟨rfl, rfl⟩ := hq
              refine mm_T.seg (f' := (132, [some (.ref 42), some (.int y1), some (.int y2), none, some (.int y4), some (.ref 3), some (.int y6), none, some (.int y8), some (.int y9), some (.int (y10 + 1)), some (.int g334)], [])) (h' := (107, o2067, J, mm_rf 3 sp rr w nw)) 2 rfl ?_
              refine mm_T.mask [true, true, true, false, true, true, true, false, true, true, true, false] ?_
              exact ih y1 y2 y4 y6 y8 y9 (y10 + 1) o2067 J 3 sp rr w nw (Or.inl rfl) out e k
            · rw [if_neg h2066] at e
              refine mm_T.seg (f' := (206, [some (.ref 42), some (.int y1), some (.int y2), none, some (.int y4), some (.ref 3), some (.int y6), none, some (.int y8), some (.int y9), some (.int y10), some (.int g334)], [(.int (y4 + 1)), (.int y8), (.int g334), (.int (y1 + 1)), (.ref 42)])) (h' := (107, (mf_put I 43 6 y1 y10), J, mm_rf 3 sp rr w nw)) 4 rfl ?_
              obtain ⟨o2068, eo2068, e⟩ := mm_bind e
              refine mm_T.call (t := 127) (as := [(.ref 42), (.int (y1 + 1)), (.int g334), (.int y8), (.int (y4 + 1))]) (f' := (209, [some (.ref 42), some (.int y1), some (.int y2), none, some (.int y4), some (.ref 3), some (.int y6), none, some (.int y8), some (.int y9), some (.int y10), some (.int g334)], [])) rfl (mm_T.deep (hrec (y1 + 1) g334 y8 (y4 + 1) (mf_put I 43 6 y1 y10) J 3 sp rr w nw (Or.inl rfl) o2068 eo2068) (by omega)) (fun v h hq => ?_)
              obtain ⟨rfl, rfl⟩ := hq
              refine mm_T.seg (f' := (132, [some (.ref 42), some (.int y1), some (.int y2), none, some (.int y4), some (.ref 3), some (.int y6), none, some (.int y8), some (.int y9), some (.int (y10 + 1)), some (.int g334)], [])) (h' := (107, o2068, J, mm_rf 3 sp rr w nw)) 2 rfl ?_
              refine mm_T.mask [true, true, true, false, true, true, true, false, true, true, true, false] ?_
              exact ih y1 y2 y4 y6 y8 y9 (y10 + 1) o2068 J 3 sp rr w nw (Or.inl rfl) out e k
          · rw [if_neg h2065] at e
            refine mm_T.seg (f' := (194, [some (.ref 42), some (.int y1), some (.int y2), none, some (.int y4), some (.ref 3), some (.int y6), none, some (.int y8), some (.int y9), some (.int y10), some (.int g334)], [(.int y9), (.int 0), (.int g334), (.int (y1 + 1)), (.ref 42)])) (h' := (107, (mf_put I 43 6 y1 y10), J, mm_rf 3 sp rr w nw)) 3 rfl ?_
            refine mm_T.br (c := y9 = 0) (a := ((204, [some (.ref 42), some (.int y1), some (.int y2), none, some (.int y4), some (.ref 3), some (.int y6), none, some (.int y8), some (.int y9), some (.int y10), some (.int g334)], [(.int 0), (.int g334), (.int (y1 + 1)), (.ref 42)]), (107, (mf_put I 43 6 y1 y10), J, mm_rf 3 sp rr w nw))) (b := ((197, [some (.ref 42), some (.int y1), some (.int y2), none, some (.int y4), some (.ref 3), some (.int y6), none, some (.int y8), some (.int y9), some (.int y10), some (.int g334)], [(.int 0), (.int g334), (.int (y1 + 1)), (.ref 42)]), (107, (mf_put I 43 6 y1 y10), J, mm_rf 3 sp rr w nw))) rfl (fun h2069 => ?_) (fun h2069 => ?_)
            · rw [if_pos h2069] at e
              refine mm_T.seg (f' := (206, [some (.ref 42), some (.int y1), some (.int y2), none, some (.int y4), some (.ref 3), some (.int y6), none, some (.int y8), some (.int y9), some (.int y10), some (.int g334)], [(.int y4), (.int 0), (.int g334), (.int (y1 + 1)), (.ref 42)])) (h' := (107, (mf_put I 43 6 y1 y10), J, mm_rf 3 sp rr w nw)) 1 rfl ?_
              obtain ⟨o2070, eo2070, e⟩ := mm_bind e
              refine mm_T.call (t := 127) (as := [(.ref 42), (.int (y1 + 1)), (.int g334), (.int 0), (.int y4)]) (f' := (209, [some (.ref 42), some (.int y1), some (.int y2), none, some (.int y4), some (.ref 3), some (.int y6), none, some (.int y8), some (.int y9), some (.int y10), some (.int g334)], [])) rfl (mm_T.deep (hrec (y1 + 1) g334 0 y4 (mf_put I 43 6 y1 y10) J 3 sp rr w nw (Or.inl rfl) o2070 eo2070) (by omega)) (fun v h hq => ?_)
              obtain ⟨rfl, rfl⟩ := hq
              refine mm_T.seg (f' := (132, [some (.ref 42), some (.int y1), some (.int y2), none, some (.int y4), some (.ref 3), some (.int y6), none, some (.int y8), some (.int y9), some (.int (y10 + 1)), some (.int g334)], [])) (h' := (107, o2070, J, mm_rf 3 sp rr w nw)) 2 rfl ?_
              refine mm_T.mask [true, true, true, false, true, true, true, false, true, true, true, false] ?_
              exact ih y1 y2 y4 y6 y8 y9 (y10 + 1) o2070 J 3 sp rr w nw (Or.inl rfl) out e k
            · rw [if_neg h2069] at e
              refine mm_T.seg (f' := (206, [some (.ref 42), some (.int y1), some (.int y2), none, some (.int y4), some (.ref 3), some (.int y6), none, some (.int y8), some (.int y9), some (.int y10), some (.int g334)], [(.int (y4 + 1)), (.int 0), (.int g334), (.int (y1 + 1)), (.ref 42)])) (h' := (107, (mf_put I 43 6 y1 y10), J, mm_rf 3 sp rr w nw)) 4 rfl ?_
              obtain ⟨o2071, eo2071, e⟩ := mm_bind e
              refine mm_T.call (t := 127) (as := [(.ref 42), (.int (y1 + 1)), (.int g334), (.int 0), (.int (y4 + 1))]) (f' := (209, [some (.ref 42), some (.int y1), some (.int y2), none, some (.int y4), some (.ref 3), some (.int y6), none, some (.int y8), some (.int y9), some (.int y10), some (.int g334)], [])) rfl (mm_T.deep (hrec (y1 + 1) g334 0 (y4 + 1) (mf_put I 43 6 y1 y10) J 3 sp rr w nw (Or.inl rfl) o2071 eo2071) (by omega)) (fun v h hq => ?_)
              obtain ⟨rfl, rfl⟩ := hq
              refine mm_T.seg (f' := (132, [some (.ref 42), some (.int y1), some (.int y2), none, some (.int y4), some (.ref 3), some (.int y6), none, some (.int y8), some (.int y9), some (.int (y10 + 1)), some (.int g334)], [])) (h' := (107, o2071, J, mm_rf 3 sp rr w nw)) 2 rfl ?_
              refine mm_T.mask [true, true, true, false, true, true, true, false, true, true, true, false] ?_
              exact ih y1 y2 y4 y6 y8 y9 (y10 + 1) o2071 J 3 sp rr w nw (Or.inl rfl) out e k
        · rw [if_neg h2064] at e
          refine mm_T.seg (f' := (132, [some (.ref 42), some (.int y1), some (.int y2), none, some (.int y4), some (.ref 3), some (.int y6), none, some (.int y8), some (.int y9), some (.int (y10 + 1)), some (.int g334)], [])) (h' := (107, I, J, mm_rf 3 sp rr w nw)) 2 rfl ?_
          refine mm_T.mask [true, true, true, false, true, true, true, false, true, true, true, false] ?_
          exact ih y1 y2 y4 y6 y8 y9 (y10 + 1) I J 3 sp rr w nw (Or.inl rfl) out e k
    · rw [fX8_goOn_L132] at e
      refine mm_T.seg (f' := (135, [some (.ref 42), some (.int y1), some (.int y2), none, some (.int y4), some (.ref 19), some (.int y6), none, some (.int y8), some (.int y9), some (.int y10), none], [(.int 1), (.int y10)])) (h' := (107, I, J, mm_rf 19 sp rr w nw)) 2 rfl ?_
      refine mm_T.br (c := 1 < y10) (a := ((215, [some (.ref 42), some (.int y1), some (.int y2), none, some (.int y4), some (.ref 19), some (.int y6), none, some (.int y8), some (.int y9), some (.int y10), none], []), (107, I, J, mm_rf 19 sp rr w nw))) (b := ((138, [some (.ref 42), some (.int y1), some (.int y2), none, some (.int y4), some (.ref 19), some (.int y6), none, some (.int y8), some (.int y9), some (.int y10), none], []), (107, I, J, mm_rf 19 sp rr w nw))) rfl (fun h2063 => ?_) (fun h2063 => ?_)
      · rw [if_pos h2063] at e
        cases e
        refine mm_T.mask [false, false, false, false, false, false, false, false, false, false, false, false] ?_
        exact k
      · rw [if_neg h2063] at e
        refine mm_T.seg (f' := (146, [some (.ref 42), some (.int y1), some (.int y2), none, some (.int y4), some (.ref 19), some (.int y6), none, some (.int y8), some (.int y9), some (.int y10), none], [(.int 1), (.int y10), (.int y6), (.int y2), (.ref 19)])) (h' := (107, I, J, mm_rf 19 sp rr w nw)) 5 rfl ?_
        obtain ⟨g334, hg334⟩ : ∃ z, fX5_leadsTo y2 y6 y10 1 19 I = z := ⟨_, rfl⟩
        try rw [hg334] at e
        refine mm_T.call (t := 81) (as := [(.ref 19), (.int y2), (.int y6), (.int y10), (.int 1)]) (f' := (149, [some (.ref 42), some (.int y1), some (.int y2), none, some (.int y4), some (.ref 19), some (.int y6), none, some (.int y8), some (.int y9), some (.int y10), none], [])) rfl (tX5_leadsTo (d + 2) y2 y6 y10 1 19 I J 19 sp rr w nw (Or.inr rfl) g334 hg334) (fun v h hq => ?_)
        obtain ⟨rfl, rfl⟩ := hq
        refine mm_T.seg (f' := (159, [some (.ref 42), some (.int y1), some (.int y2), none, some (.int y4), some (.ref 19), some (.int y6), none, some (.int y8), some (.int y9), some (.int y10), some (.int g334)], [(.int (y6 + 1)), (.int g334), (.ref 19)])) (h' := (107, I, J, mm_rf 19 sp rr w nw)) 6 rfl ?_
        obtain ⟨g335, hg335⟩ : ∃ z, fX5_ironAt g334 (y6 + 1) 19 I = z := ⟨_, rfl⟩
        try rw [hg335] at e
        refine mm_T.call (t := 69) (as := [(.ref 19), (.int g334), (.int (y6 + 1))]) (f' := (162, [some (.ref 42), some (.int y1), some (.int y2), none, some (.int y4), some (.ref 19), some (.int y6), none, some (.int y8), some (.int y9), some (.int y10), some (.int g334)], [])) rfl (tX5_ironAt (d + 2) g334 (y6 + 1) 19 I J 19 sp rr w nw (Or.inr rfl) g335 hg335) (fun v h hq => ?_)
        obtain ⟨rfl, rfl⟩ := hq
        refine mm_T.br (c := g335 = 0) (a := ((165, [some (.ref 42), some (.int y1), some (.int y2), none, some (.int y4), some (.ref 19), some (.int y6), none, some (.int y8), some (.int y9), some (.int y10), some (.int g334)], []), (107, I, J, mm_rf 19 sp rr w nw))) (b := ((209, [some (.ref 42), some (.int y1), some (.int y2), none, some (.int y4), some (.ref 19), some (.int y6), none, some (.int y8), some (.int y9), some (.int y10), some (.int g334)], []), (107, I, J, mm_rf 19 sp rr w nw))) rfl (fun h2064 => ?_) (fun h2064 => ?_)
        · rw [if_pos h2064] at e
          refine mm_T.seg (f' := (169, [some (.ref 42), some (.int y1), some (.int y2), none, some (.int y4), some (.ref 19), some (.int y6), none, some (.int y8), some (.int y9), some (.int y10), some (.int g334)], [(.ref 43)])) (h' := (107, I, J, mm_rf 19 sp rr w nw)) 2 rfl ?_
          refine mm_T.seg (f' := (172, [some (.ref 42), some (.int y1), some (.int y2), none, some (.int y4), some (.ref 19), some (.int y6), none, some (.int y8), some (.int y9), some (.int y10), some (.int g334)], [(.int y10), (.int y1), (.ref 43)])) (h' := (107, I, J, mm_rf 19 sp rr w nw)) 2 rfl ?_
          refine mm_T.call (t := 205) (as := [(.ref 43), (.int y1), (.int y10)]) (f' := (175, [some (.ref 42), some (.int y1), some (.int y2), none, some (.int y4), some (.ref 19), some (.int y6), none, some (.int y8), some (.int y9), some (.int y10), some (.int g334)], [])) rfl (t_put _ 43 6 y1 y10 I J (mm_rf 19 sp rr w nw) rfl rfl) (fun v h hq => ?_)
          obtain ⟨rfl, rfl⟩ := hq
          refine mm_T.seg (f' := (183, [some (.ref 42), some (.int y1), some (.int y2), none, some (.int y4), some (.ref 19), some (.int y6), none, some (.int y8), some (.int y9), some (.int y10), some (.int g334)], [(.int y9), (.int g334), (.int (y1 + 1)), (.ref 42)])) (h' := (107, (mf_put I 43 6 y1 y10), J, mm_rf 19 sp rr w nw)) 6 rfl ?_
          refine mm_T.br (c := y9 = 0) (a := ((190, [some (.ref 42), some (.int y1), some (.int y2), none, some (.int y4), some (.ref 19), some (.int y6), none, some (.int y8), some (.int y9), some (.int y10), some (.int g334)], [(.int g334), (.int (y1 + 1)), (.ref 42)]), (107, (mf_put I 43 6 y1 y10), J, mm_rf 19 sp rr w nw))) (b := ((186, [some (.ref 42), some (.int y1), some (.int y2), none, some (.int y4), some (.ref 19), some (.int y6), none, some (.int y8), some (.int y9), some (.int y10), some (.int g334)], [(.int g334), (.int (y1 + 1)), (.ref 42)]), (107, (mf_put I 43 6 y1 y10), J, mm_rf 19 sp rr w nw))) rfl (fun h2065 => ?_) (fun h2065 => ?_)
          · rw [if_pos h2065] at e
            refine mm_T.seg (f' := (194, [some (.ref 42), some (.int y1), some (.int y2), none, some (.int y4), some (.ref 19), some (.int y6), none, some (.int y8), some (.int y9), some (.int y10), some (.int g334)], [(.int y9), (.int y8), (.int g334), (.int (y1 + 1)), (.ref 42)])) (h' := (107, (mf_put I 43 6 y1 y10), J, mm_rf 19 sp rr w nw)) 2 rfl ?_
            refine mm_T.br (c := y9 = 0) (a := ((204, [some (.ref 42), some (.int y1), some (.int y2), none, some (.int y4), some (.ref 19), some (.int y6), none, some (.int y8), some (.int y9), some (.int y10), some (.int g334)], [(.int y8), (.int g334), (.int (y1 + 1)), (.ref 42)]), (107, (mf_put I 43 6 y1 y10), J, mm_rf 19 sp rr w nw))) (b := ((197, [some (.ref 42), some (.int y1), some (.int y2), none, some (.int y4), some (.ref 19), some (.int y6), none, some (.int y8), some (.int y9), some (.int y10), some (.int g334)], [(.int y8), (.int g334), (.int (y1 + 1)), (.ref 42)]), (107, (mf_put I 43 6 y1 y10), J, mm_rf 19 sp rr w nw))) rfl (fun h2066 => ?_) (fun h2066 => ?_)
            · rw [if_pos h2066] at e
              refine mm_T.seg (f' := (206, [some (.ref 42), some (.int y1), some (.int y2), none, some (.int y4), some (.ref 19), some (.int y6), none, some (.int y8), some (.int y9), some (.int y10), some (.int g334)], [(.int y4), (.int y8), (.int g334), (.int (y1 + 1)), (.ref 42)])) (h' := (107, (mf_put I 43 6 y1 y10), J, mm_rf 19 sp rr w nw)) 1 rfl ?_
              obtain ⟨o2067, eo2067, e⟩ := mm_bind e
              refine mm_T.call (t := 127) (as := [(.ref 42), (.int (y1 + 1)), (.int g334), (.int y8), (.int y4)]) (f' := (209, [some (.ref 42), some (.int y1), some (.int y2), none, some (.int y4), some (.ref 19), some (.int y6), none, some (.int y8), some (.int y9), some (.int y10), some (.int g334)], [])) rfl (mm_T.deep (hrec (y1 + 1) g334 y8 y4 (mf_put I 43 6 y1 y10) J 19 sp rr w nw (Or.inr rfl) o2067 eo2067) (by omega)) (fun v h hq => ?_)
              obtain ⟨rfl, rfl⟩ := hq
              refine mm_T.seg (f' := (132, [some (.ref 42), some (.int y1), some (.int y2), none, some (.int y4), some (.ref 19), some (.int y6), none, some (.int y8), some (.int y9), some (.int (y10 + 1)), some (.int g334)], [])) (h' := (107, o2067, J, mm_rf 19 sp rr w nw)) 2 rfl ?_
              refine mm_T.mask [true, true, true, false, true, true, true, false, true, true, true, false] ?_
              exact ih y1 y2 y4 y6 y8 y9 (y10 + 1) o2067 J 19 sp rr w nw (Or.inr rfl) out e k
            · rw [if_neg h2066] at e
              refine mm_T.seg (f' := (206, [some (.ref 42), some (.int y1), some (.int y2), none, some (.int y4), some (.ref 19), some (.int y6), none, some (.int y8), some (.int y9), some (.int y10), some (.int g334)], [(.int (y4 + 1)), (.int y8), (.int g334), (.int (y1 + 1)), (.ref 42)])) (h' := (107, (mf_put I 43 6 y1 y10), J, mm_rf 19 sp rr w nw)) 4 rfl ?_
              obtain ⟨o2068, eo2068, e⟩ := mm_bind e
              refine mm_T.call (t := 127) (as := [(.ref 42), (.int (y1 + 1)), (.int g334), (.int y8), (.int (y4 + 1))]) (f' := (209, [some (.ref 42), some (.int y1), some (.int y2), none, some (.int y4), some (.ref 19), some (.int y6), none, some (.int y8), some (.int y9), some (.int y10), some (.int g334)], [])) rfl (mm_T.deep (hrec (y1 + 1) g334 y8 (y4 + 1) (mf_put I 43 6 y1 y10) J 19 sp rr w nw (Or.inr rfl) o2068 eo2068) (by omega)) (fun v h hq => ?_)
              obtain ⟨rfl, rfl⟩ := hq
              refine mm_T.seg (f' := (132, [some (.ref 42), some (.int y1), some (.int y2), none, some (.int y4), some (.ref 19), some (.int y6), none, some (.int y8), some (.int y9), some (.int (y10 + 1)), some (.int g334)], [])) (h' := (107, o2068, J, mm_rf 19 sp rr w nw)) 2 rfl ?_
              refine mm_T.mask [true, true, true, false, true, true, true, false, true, true, true, false] ?_
              exact ih y1 y2 y4 y6 y8 y9 (y10 + 1) o2068 J 19 sp rr w nw (Or.inr rfl) out e k
          · rw [if_neg h2065] at e
            refine mm_T.seg (f' := (194, [some (.ref 42), some (.int y1), some (.int y2), none, some (.int y4), some (.ref 19), some (.int y6), none, some (.int y8), some (.int y9), some (.int y10), some (.int g334)], [(.int y9), (.int 0), (.int g334), (.int (y1 + 1)), (.ref 42)])) (h' := (107, (mf_put I 43 6 y1 y10), J, mm_rf 19 sp rr w nw)) 3 rfl ?_
            refine mm_T.br (c := y9 = 0) (a := ((204, [some (.ref 42), some (.int y1), some (.int y2), none, some (.int y4), some (.ref 19), some (.int y6), none, some (.int y8), some (.int y9), some (.int y10), some (.int g334)], [(.int 0), (.int g334), (.int (y1 + 1)), (.ref 42)]), (107, (mf_put I 43 6 y1 y10), J, mm_rf 19 sp rr w nw))) (b := ((197, [some (.ref 42), some (.int y1), some (.int y2), none, some (.int y4), some (.ref 19), some (.int y6), none, some (.int y8), some (.int y9), some (.int y10), some (.int g334)], [(.int 0), (.int g334), (.int (y1 + 1)), (.ref 42)]), (107, (mf_put I 43 6 y1 y10), J, mm_rf 19 sp rr w nw))) rfl (fun h2069 => ?_) (fun h2069 => ?_)
            · rw [if_pos h2069] at e
              refine mm_T.seg (f' := (206, [some (.ref 42), some (.int y1), some (.int y2), none, some (.int y4), some (.ref 19), some (.int y6), none, some (.int y8), some (.int y9), some (.int y10), some (.int g334)], [(.int y4), (.int 0), (.int g334), (.int (y1 + 1)), (.ref 42)])) (h' := (107, (mf_put I 43 6 y1 y10), J, mm_rf 19 sp rr w nw)) 1 rfl ?_
              obtain ⟨o2070, eo2070, e⟩ := mm_bind e
              refine mm_T.call (t := 127) (as := [(.ref 42), (.int (y1 + 1)), (.int g334), (.int 0), (.int y4)]) (f' := (209, [some (.ref 42), some (.int y1), some (.int y2), none, some (.int y4), some (.ref 19), some (.int y6), none, some (.int y8), some (.int y9), some (.int y10), some (.int g334)], [])) rfl (mm_T.deep (hrec (y1 + 1) g334 0 y4 (mf_put I 43 6 y1 y10) J 19 sp rr w nw (Or.inr rfl) o2070 eo2070) (by omega)) (fun v h hq => ?_)
              obtain ⟨rfl, rfl⟩ := hq
              refine mm_T.seg (f' := (132, [some (.ref 42), some (.int y1), some (.int y2), none, some (.int y4), some (.ref 19), some (.int y6), none, some (.int y8), some (.int y9), some (.int (y10 + 1)), some (.int g334)], [])) (h' := (107, o2070, J, mm_rf 19 sp rr w nw)) 2 rfl ?_
              refine mm_T.mask [true, true, true, false, true, true, true, false, true, true, true, false] ?_
              exact ih y1 y2 y4 y6 y8 y9 (y10 + 1) o2070 J 19 sp rr w nw (Or.inr rfl) out e k
            · rw [if_neg h2069] at e
              refine mm_T.seg (f' := (206, [some (.ref 42), some (.int y1), some (.int y2), none, some (.int y4), some (.ref 19), some (.int y6), none, some (.int y8), some (.int y9), some (.int y10), some (.int g334)], [(.int (y4 + 1)), (.int 0), (.int g334), (.int (y1 + 1)), (.ref 42)])) (h' := (107, (mf_put I 43 6 y1 y10), J, mm_rf 19 sp rr w nw)) 4 rfl ?_
              obtain ⟨o2071, eo2071, e⟩ := mm_bind e
              refine mm_T.call (t := 127) (as := [(.ref 42), (.int (y1 + 1)), (.int g334), (.int 0), (.int (y4 + 1))]) (f' := (209, [some (.ref 42), some (.int y1), some (.int y2), none, some (.int y4), some (.ref 19), some (.int y6), none, some (.int y8), some (.int y9), some (.int y10), some (.int g334)], [])) rfl (mm_T.deep (hrec (y1 + 1) g334 0 (y4 + 1) (mf_put I 43 6 y1 y10) J 19 sp rr w nw (Or.inr rfl) o2071 eo2071) (by omega)) (fun v h hq => ?_)
              obtain ⟨rfl, rfl⟩ := hq
              refine mm_T.seg (f' := (132, [some (.ref 42), some (.int y1), some (.int y2), none, some (.int y4), some (.ref 19), some (.int y6), none, some (.int y8), some (.int y9), some (.int (y10 + 1)), some (.int g334)], [])) (h' := (107, o2071, J, mm_rf 19 sp rr w nw)) 2 rfl ?_
              refine mm_T.mask [true, true, true, false, true, true, true, false, true, true, true, false] ?_
              exact ih y1 y2 y4 y6 y8 y9 (y10 + 1) o2071 J 19 sp rr w nw (Or.inr rfl) out e k
        · rw [if_neg h2064] at e
          refine mm_T.seg (f' := (132, [some (.ref 42), some (.int y1), some (.int y2), none, some (.int y4), some (.ref 19), some (.int y6), none, some (.int y8), some (.int y9), some (.int (y10 + 1)), some (.int g334)], [])) (h' := (107, I, J, mm_rf 19 sp rr w nw)) 2 rfl ?_
          refine mm_T.mask [true, true, true, false, true, true, true, false, true, true, true, false] ?_
          exact ih y1 y2 y4 y6 y8 y9 (y10 + 1) I J 19 sp rr w nw (Or.inr rfl) out e k
set_option maxRecDepth 100000 in
set_option maxHeartbeats 4000000 in
theorem tX8_goOn_B (d n : Nat) (rec : Int32 → Int32 → Int32 → Int32 → (Nat → Nat → Int32) → Nat → Option ((Nat → Nat → Int32))) (hrec : ∀ (x1 : Int32) (x2 : Int32) (x3 : Int32) (x4 : Int32) (I : Nat → Nat → Int32) (J : Nat → Nat → Int64) (rv sp rr w nw : Nat), (rv = 3 ∨ rv = 19) → ∀ (out : (Nat → Nat → Int32)), rec x1 x2 x3 x4 I rv = some out → mm_T none d 127 (mm_ent 127 [(.ref 42), (.int x1), (.int x2), (.int x3), (.int x4)]) (107, I, J, mm_rf rv sp rr w nw) (fun v h => v = none ∧ h = (107, out, J, mm_rf rv sp rr w nw))) (x1 : Int32) (x2 : Int32) (x3 : Int32) (x4 : Int32) (I : Nat → Nat → Int32) (J : Nat → Nat → Int64) (rv sp rr w nw : Nat) (hrv : rv = 3 ∨ rv = 19) (out : (Nat → Nat → Int32)) (e : fX8_goOn_B n rec x1 x2 x3 x4 I rv = some out) : mm_T none (d + 4) 127 (mm_ent 127 [(.ref 42), (.int x1), (.int x2), (.int x3), (.int x4)]) (107, I, J, mm_rf rv sp rr w nw) (fun v h => v = none ∧ h = (107, out, J, mm_rf rv sp rr w nw)) := by
  rcases hrv with rfl | rfl
  · unfold fX8_goOn_B at e
    refine mm_T.seg (f' := (4, [some (.ref 42), some (.int x1), some (.int x2), some (.int x3), some (.int x4), none, none, none, none, none, none, none], [(.int (I 42 4))])) (h' := (107, I, J, mm_rf 3 sp rr w nw)) 2 rfl ?_
    refine mm_T.br (c := (I 42 4) = 0) (a := ((17, [some (.ref 42), some (.int x1), some (.int x2), some (.int x3), some (.int x4), none, none, none, none, none, none, none], []), (107, I, J, mm_rf 3 sp rr w nw))) (b := ((7, [some (.ref 42), some (.int x1), some (.int x2), some (.int x3), some (.int x4), none, none, none, none, none, none, none], []), (107, I, J, mm_rf 3 sp rr w nw))) rfl (fun h2059 => ?_) (fun h2059 => ?_)
    · rw [if_pos h2059] at e
      refine mm_T.seg (f' := (22, [some (.ref 42), some (.int x1), some (.int x2), some (.int x3), some (.int x4), none, none, none, none, none, none, none], [(.ref 18), (.int x1)])) (h' := (107, I, J, mm_rf 3 sp rr w nw)) 3 rfl ?_
      refine mm_T.seg (f' := (26, [some (.ref 42), some (.int x1), some (.int x2), some (.int x3), some (.int x4), none, none, none, none, none, none, none], [(.int (I 42 2)), (.ref 18), (.int x1)])) (h' := (107, I, J, mm_rf 3 sp rr w nw)) 2 rfl ?_
      obtain ⟨g329, hg329⟩ : ∃ z, fX7_strokesLeft (I 42 2) I 3 = z := ⟨_, rfl⟩
      try rw [hg329] at e
      refine mm_T.call (t := 111) (as := [(.ref 18), (.int (I 42 2))]) (f' := (29, [some (.ref 42), some (.int x1), some (.int x2), some (.int x3), some (.int x4), none, none, none, none, none, none, none], [(.int x1)])) rfl (tX7_strokesLeft (d + 0) (I 42 2) I J 3 sp rr w nw (Or.inl rfl) g329 hg329) (fun v h hq => ?_)
      obtain ⟨rfl, rfl⟩ := hq
      refine mm_T.br (c := x1 < g329) (a := ((41, [some (.ref 42), some (.int x1), some (.int x2), some (.int x3), some (.int x4), none, none, none, none, none, none, none], []), (107, I, J, mm_rf 3 sp rr w nw))) (b := ((32, [some (.ref 42), some (.int x1), some (.int x2), some (.int x3), some (.int x4), none, none, none, none, none, none, none], []), (107, I, J, mm_rf 3 sp rr w nw))) rfl (fun h2060 => ?_) (fun h2060 => ?_)
      · rw [if_pos h2060] at e
        refine mm_T.seg (f' := (45, [some (.ref 42), some (.int x1), some (.int x2), some (.int x3), some (.int x4), none, none, none, none, none, none, none], [(.ref 18)])) (h' := (107, I, J, mm_rf 3 sp rr w nw)) 2 rfl ?_
        refine mm_T.seg (f' := (54, [some (.ref 42), some (.int x1), some (.int x2), some (.int x3), some (.int x4), some (.ref 3), none, none, none, none, none, none], [(.ref 18)])) (h' := (107, I, J, mm_rf 3 sp rr w nw)) 4 rfl ?_
        refine mm_T.seg (f' := (58, [some (.ref 42), some (.int x1), some (.int x2), some (.int x3), some (.int x4), some (.ref 3), none, none, none, none, none, none], [(.int (I 42 2)), (.ref 18)])) (h' := (107, I, J, mm_rf 3 sp rr w nw)) 2 rfl ?_
        obtain ⟨g330, hg330⟩ : ∃ z, fX7_rowOf (I 42 2) I = z := ⟨_, rfl⟩
        try rw [hg330] at e
        refine mm_T.call (t := 106) (as := [(.ref 18), (.int (I 42 2))]) (f' := (61, [some (.ref 42), some (.int x1), some (.int x2), some (.int x3), some (.int x4), some (.ref 3), none, none, none, none, none, none], [])) rfl (tX7_rowOf (d + 1) (I 42 2) I J 3 sp rr w nw g330 hg330) (fun v h hq => ?_)
        obtain ⟨rfl, rfl⟩ := hq
        refine mm_T.seg (f' := (82, [some (.ref 42), some (.int x1), some (.int x2), some (.int x3), some (.int x4), some (.ref 3), some (.int (g330 + x1)), none, none, none, none, none], [(.ref 18), (.int (I 42 3)), (.int x2), (.int (g330 + x1)), (.int (I 42 2)), (.ref 3)])) (h' := (107, I, J, mm_rf 3 sp rr w nw)) 12 rfl ?_
        refine mm_T.seg (f' := (86, [some (.ref 42), some (.int x1), some (.int x2), some (.int x3), some (.int x4), some (.ref 3), some (.int (g330 + x1)), none, none, none, none, none], [(.int (I 42 2)), (.ref 18), (.int (I 42 3)), (.int x2), (.int (g330 + x1)), (.int (I 42 2)), (.ref 3)])) (h' := (107, I, J, mm_rf 3 sp rr w nw)) 2 rfl ?_
        obtain ⟨g331, hg331⟩ : ∃ z, fX7_strokesOf (I 42 2) I = z := ⟨_, rfl⟩
        try rw [hg331] at e
        refine mm_T.call (t := 110) (as := [(.ref 18), (.int (I 42 2))]) (f' := (89, [some (.ref 42), some (.int x1), some (.int x2), some (.int x3), some (.int x4), some (.ref 3), some (.int (g330 + x1)), none, none, none, none, none], [(.int (I 42 3)), (.int x2), (.int (g330 + x1)), (.int (I 42 2)), (.ref 3)])) rfl (tX7_strokesOf (d + 1) (I 42 2) I J 3 sp rr w nw g331 hg331) (fun v h hq => ?_)
        obtain ⟨rfl, rfl⟩ := hq
        refine mm_T.seg (f' := (92, [some (.ref 42), some (.int x1), some (.int x2), some (.int x3), some (.int x4), some (.ref 3), some (.int (g330 + x1)), none, none, none, none, none], [(.int x3), (.int (g331 + x1)), (.int (I 42 3)), (.int x2), (.int (g330 + x1)), (.int (I 42 2)), (.ref 3)])) (h' := (107, I, J, mm_rf 3 sp rr w nw)) 3 rfl ?_
        obtain ⟨o2061, eo2061, e⟩ := mm_bind e
        refine mm_T.call (t := 82) (as := [(.ref 3), (.int (I 42 2)), (.int (g330 + x1)), (.int x2), (.int (I 42 3)), (.int (g331 + x1)), (.int x3)]) (f' := (95, [some (.ref 42), some (.int x1), some (.int x2), some (.int x3), some (.int x4), some (.ref 3), some (.int (g330 + x1)), none, none, none, none, none], [])) rfl (tX5_warmth (d + 1) n (I 42 2) (g330 + x1) x2 (I 42 3) (g331 + x1) x3 3 I J 3 sp rr w nw (Or.inl rfl) o2061 eo2061) (fun v h hq => ?_)
        obtain ⟨rfl, rfl⟩ := hq
        refine mm_T.seg (f' := (103, [some (.ref 42), some (.int x1), some (.int x2), some (.int x3), some (.int x4), some (.ref 3), some (.int (g330 + x1)), some (.int o2061.1), none, none, none, none], [(.int (x3 + o2061.1)), (.int 99)])) (h' := (107, o2061.2, J, mm_rf 3 sp rr w nw)) 5 rfl ?_
        obtain ⟨g332, hg332⟩ : ∃ z, fJ9_min 99 (x3 + o2061.1) = z := ⟨_, rfl⟩
        try rw [hg332] at e
        refine mm_T.call (t := 348) (as := [(.int 99), (.int (x3 + o2061.1))]) (f' := (106, [some (.ref 42), some (.int x1), some (.int x2), some (.int x3), some (.int x4), some (.ref 3), some (.int (g330 + x1)), some (.int o2061.1), none, none, none, none], [])) rfl (tJ9_min (d + 3) 99 (x3 + o2061.1) o2061.2 J 3 sp rr w nw g332 hg332) (fun v h hq => ?_)
        obtain ⟨rfl, rfl⟩ := hq
        refine mm_T.seg (f' := (116, [some (.ref 42), some (.int x1), some (.int x2), some (.int x3), some (.int x4), some (.ref 3), some (.int (g330 + x1)), some (.int o2061.1), some (.int g332), none, none, none], [(.int (o2061.2 42 2)), (.ref 3), (.int g332)])) (h' := (107, o2061.2, J, mm_rf 3 sp rr w nw)) 5 rfl ?_
        obtain ⟨g333, hg333⟩ : ∃ z, fX5_bearsOf (o2061.2 42 2) 3 o2061.2 = z := ⟨_, rfl⟩
        try rw [hg333] at e
        refine mm_T.call (t := 79) (as := [(.ref 3), (.int (o2061.2 42 2))]) (f' := (119, [some (.ref 42), some (.int x1), some (.int x2), some (.int x3), some (.int x4), some (.ref 3), some (.int (g330 + x1)), some (.int o2061.1), some (.int g332), none, none, none], [(.int g332)])) rfl (tX5_bearsOf (d + 2) (o2061.2 42 2) 3 o2061.2 J 3 sp rr w nw (Or.inl rfl) g333 hg333) (fun v h hq => ?_)
        obtain ⟨rfl, rfl⟩ := hq
        refine mm_T.br (c := g333 < g332) (a := ((122, [some (.ref 42), some (.int x1), some (.int x2), some (.int x3), some (.int x4), some (.ref 3), some (.int (g330 + x1)), some (.int o2061.1), some (.int g332), none, none, none], []), (107, o2061.2, J, mm_rf 3 sp rr w nw))) (b := ((126, [some (.ref 42), some (.int x1), some (.int x2), some (.int x3), some (.int x4), some (.ref 3), some (.int (g330 + x1)), some (.int o2061.1), some (.int g332), none, none, none], []), (107, o2061.2, J, mm_rf 3 sp rr w nw))) rfl (fun h2062 => ?_) (fun h2062 => ?_)
        · rw [if_pos h2062] at e
          refine mm_T.seg (f' := (132, [some (.ref 42), some (.int x1), some (.int x2), some (.int x3), some (.int x4), some (.ref 3), some (.int (g330 + x1)), some (.int o2061.1), some (.int g332), some (.int 1), some (.int (-1)), none], [])) (h' := (107, o2061.2, J, mm_rf 3 sp rr w nw)) 5 rfl ?_
          refine mm_T.mask [true, true, true, false, true, true, true, false, true, true, true, false] ?_
          obtain ⟨o2072, eo2072, e⟩ := mm_bind e
          refine tlX8_goOn_L132 d _ rec hrec n x1 x2 x4 (g330 + x1) g332 1 (-1) o2061.2 J 3 sp rr w nw (Or.inl rfl) o2072 eo2072 ?_
          cases e
          exact mm_T.ret rfl ⟨rfl, rfl⟩
        · rw [if_neg h2062] at e
          refine mm_T.seg (f' := (132, [some (.ref 42), some (.int x1), some (.int x2), some (.int x3), some (.int x4), some (.ref 3), some (.int (g330 + x1)), some (.int o2061.1), some (.int g332), some (.int 0), some (.int (-1)), none], [])) (h' := (107, o2061.2, J, mm_rf 3 sp rr w nw)) 4 rfl ?_
          refine mm_T.mask [true, true, true, false, true, true, true, false, true, true, true, false] ?_
          obtain ⟨o2073, eo2073, e⟩ := mm_bind e
          refine tlX8_goOn_L132 d _ rec hrec n x1 x2 x4 (g330 + x1) g332 0 (-1) o2061.2 J 3 sp rr w nw (Or.inl rfl) o2073 eo2073 ?_
          cases e
          exact mm_T.ret rfl ⟨rfl, rfl⟩
      · rw [if_neg h2060] at e
        refine mm_T.seg (f' := (37, [some (.ref 42), some (.int x1), some (.int x2), some (.int x3), some (.int x4), none, none, none, none, none, none, none], [(.int x4), (.int x3), (.int x2), (.ref 42)])) (h' := (107, I, J, mm_rf 3 sp rr w nw)) 4 rfl ?_
        obtain ⟨o2082, eo2082, e⟩ := mm_bind e
        refine mm_T.call (t := 128) (as := [(.ref 42), (.int x2), (.int x3), (.int x4)]) (f' := (40, [some (.ref 42), some (.int x1), some (.int x2), some (.int x3), some (.int x4), none, none, none, none, none, none, none], [])) rfl (tX8_noteIfCooler (d + 2) n x2 x3 x4 I J 3 sp rr w nw o2082 eo2082) (fun v h hq => ?_)
        obtain ⟨rfl, rfl⟩ := hq
        cases e
        exact mm_T.ret rfl ⟨rfl, rfl⟩
    · rw [if_neg h2059] at e
      refine mm_T.seg (f' := (13, [some (.ref 42), some (.int x1), some (.int x2), some (.int x3), some (.int x4), none, none, none, none, none, none, none], [(.int (I 42 6)), (.int x4)])) (h' := (107, I, J, mm_rf 3 sp rr w nw)) 3 rfl ?_
      refine mm_T.br (c := (I 42 6) < x4) (a := ((16, [some (.ref 42), some (.int x1), some (.int x2), some (.int x3), some (.int x4), none, none, none, none, none, none, none], []), (107, I, J, mm_rf 3 sp rr w nw))) (b := ((17, [some (.ref 42), some (.int x1), some (.int x2), some (.int x3), some (.int x4), none, none, none, none, none, none, none], []), (107, I, J, mm_rf 3 sp rr w nw))) rfl (fun h2083 => ?_) (fun h2083 => ?_)
      · rw [if_pos h2083] at e
        cases e
        exact mm_T.ret rfl ⟨rfl, rfl⟩
      · rw [if_neg h2083] at e
        refine mm_T.seg (f' := (22, [some (.ref 42), some (.int x1), some (.int x2), some (.int x3), some (.int x4), none, none, none, none, none, none, none], [(.ref 18), (.int x1)])) (h' := (107, I, J, mm_rf 3 sp rr w nw)) 3 rfl ?_
        refine mm_T.seg (f' := (26, [some (.ref 42), some (.int x1), some (.int x2), some (.int x3), some (.int x4), none, none, none, none, none, none, none], [(.int (I 42 2)), (.ref 18), (.int x1)])) (h' := (107, I, J, mm_rf 3 sp rr w nw)) 2 rfl ?_
        obtain ⟨g336, hg336⟩ : ∃ z, fX7_strokesLeft (I 42 2) I 3 = z := ⟨_, rfl⟩
        try rw [hg336] at e
        refine mm_T.call (t := 111) (as := [(.ref 18), (.int (I 42 2))]) (f' := (29, [some (.ref 42), some (.int x1), some (.int x2), some (.int x3), some (.int x4), none, none, none, none, none, none, none], [(.int x1)])) rfl (tX7_strokesLeft (d + 0) (I 42 2) I J 3 sp rr w nw (Or.inl rfl) g336 hg336) (fun v h hq => ?_)
        obtain ⟨rfl, rfl⟩ := hq
        refine mm_T.br (c := x1 < g336) (a := ((41, [some (.ref 42), some (.int x1), some (.int x2), some (.int x3), some (.int x4), none, none, none, none, none, none, none], []), (107, I, J, mm_rf 3 sp rr w nw))) (b := ((32, [some (.ref 42), some (.int x1), some (.int x2), some (.int x3), some (.int x4), none, none, none, none, none, none, none], []), (107, I, J, mm_rf 3 sp rr w nw))) rfl (fun h2084 => ?_) (fun h2084 => ?_)
        · rw [if_pos h2084] at e
          refine mm_T.seg (f' := (45, [some (.ref 42), some (.int x1), some (.int x2), some (.int x3), some (.int x4), none, none, none, none, none, none, none], [(.ref 18)])) (h' := (107, I, J, mm_rf 3 sp rr w nw)) 2 rfl ?_
          refine mm_T.seg (f' := (54, [some (.ref 42), some (.int x1), some (.int x2), some (.int x3), some (.int x4), some (.ref 3), none, none, none, none, none, none], [(.ref 18)])) (h' := (107, I, J, mm_rf 3 sp rr w nw)) 4 rfl ?_
          refine mm_T.seg (f' := (58, [some (.ref 42), some (.int x1), some (.int x2), some (.int x3), some (.int x4), some (.ref 3), none, none, none, none, none, none], [(.int (I 42 2)), (.ref 18)])) (h' := (107, I, J, mm_rf 3 sp rr w nw)) 2 rfl ?_
          obtain ⟨g337, hg337⟩ : ∃ z, fX7_rowOf (I 42 2) I = z := ⟨_, rfl⟩
          try rw [hg337] at e
          refine mm_T.call (t := 106) (as := [(.ref 18), (.int (I 42 2))]) (f' := (61, [some (.ref 42), some (.int x1), some (.int x2), some (.int x3), some (.int x4), some (.ref 3), none, none, none, none, none, none], [])) rfl (tX7_rowOf (d + 1) (I 42 2) I J 3 sp rr w nw g337 hg337) (fun v h hq => ?_)
          obtain ⟨rfl, rfl⟩ := hq
          refine mm_T.seg (f' := (82, [some (.ref 42), some (.int x1), some (.int x2), some (.int x3), some (.int x4), some (.ref 3), some (.int (g337 + x1)), none, none, none, none, none], [(.ref 18), (.int (I 42 3)), (.int x2), (.int (g337 + x1)), (.int (I 42 2)), (.ref 3)])) (h' := (107, I, J, mm_rf 3 sp rr w nw)) 12 rfl ?_
          refine mm_T.seg (f' := (86, [some (.ref 42), some (.int x1), some (.int x2), some (.int x3), some (.int x4), some (.ref 3), some (.int (g337 + x1)), none, none, none, none, none], [(.int (I 42 2)), (.ref 18), (.int (I 42 3)), (.int x2), (.int (g337 + x1)), (.int (I 42 2)), (.ref 3)])) (h' := (107, I, J, mm_rf 3 sp rr w nw)) 2 rfl ?_
          obtain ⟨g338, hg338⟩ : ∃ z, fX7_strokesOf (I 42 2) I = z := ⟨_, rfl⟩
          try rw [hg338] at e
          refine mm_T.call (t := 110) (as := [(.ref 18), (.int (I 42 2))]) (f' := (89, [some (.ref 42), some (.int x1), some (.int x2), some (.int x3), some (.int x4), some (.ref 3), some (.int (g337 + x1)), none, none, none, none, none], [(.int (I 42 3)), (.int x2), (.int (g337 + x1)), (.int (I 42 2)), (.ref 3)])) rfl (tX7_strokesOf (d + 1) (I 42 2) I J 3 sp rr w nw g338 hg338) (fun v h hq => ?_)
          obtain ⟨rfl, rfl⟩ := hq
          refine mm_T.seg (f' := (92, [some (.ref 42), some (.int x1), some (.int x2), some (.int x3), some (.int x4), some (.ref 3), some (.int (g337 + x1)), none, none, none, none, none], [(.int x3), (.int (g338 + x1)), (.int (I 42 3)), (.int x2), (.int (g337 + x1)), (.int (I 42 2)), (.ref 3)])) (h' := (107, I, J, mm_rf 3 sp rr w nw)) 3 rfl ?_
          obtain ⟨o2085, eo2085, e⟩ := mm_bind e
          refine mm_T.call (t := 82) (as := [(.ref 3), (.int (I 42 2)), (.int (g337 + x1)), (.int x2), (.int (I 42 3)), (.int (g338 + x1)), (.int x3)]) (f' := (95, [some (.ref 42), some (.int x1), some (.int x2), some (.int x3), some (.int x4), some (.ref 3), some (.int (g337 + x1)), none, none, none, none, none], [])) rfl (tX5_warmth (d + 1) n (I 42 2) (g337 + x1) x2 (I 42 3) (g338 + x1) x3 3 I J 3 sp rr w nw (Or.inl rfl) o2085 eo2085) (fun v h hq => ?_)
          obtain ⟨rfl, rfl⟩ := hq
          refine mm_T.seg (f' := (103, [some (.ref 42), some (.int x1), some (.int x2), some (.int x3), some (.int x4), some (.ref 3), some (.int (g337 + x1)), some (.int o2085.1), none, none, none, none], [(.int (x3 + o2085.1)), (.int 99)])) (h' := (107, o2085.2, J, mm_rf 3 sp rr w nw)) 5 rfl ?_
          obtain ⟨g339, hg339⟩ : ∃ z, fJ9_min 99 (x3 + o2085.1) = z := ⟨_, rfl⟩
          try rw [hg339] at e
          refine mm_T.call (t := 348) (as := [(.int 99), (.int (x3 + o2085.1))]) (f' := (106, [some (.ref 42), some (.int x1), some (.int x2), some (.int x3), some (.int x4), some (.ref 3), some (.int (g337 + x1)), some (.int o2085.1), none, none, none, none], [])) rfl (tJ9_min (d + 3) 99 (x3 + o2085.1) o2085.2 J 3 sp rr w nw g339 hg339) (fun v h hq => ?_)
          obtain ⟨rfl, rfl⟩ := hq
          refine mm_T.seg (f' := (116, [some (.ref 42), some (.int x1), some (.int x2), some (.int x3), some (.int x4), some (.ref 3), some (.int (g337 + x1)), some (.int o2085.1), some (.int g339), none, none, none], [(.int (o2085.2 42 2)), (.ref 3), (.int g339)])) (h' := (107, o2085.2, J, mm_rf 3 sp rr w nw)) 5 rfl ?_
          obtain ⟨g340, hg340⟩ : ∃ z, fX5_bearsOf (o2085.2 42 2) 3 o2085.2 = z := ⟨_, rfl⟩
          try rw [hg340] at e
          refine mm_T.call (t := 79) (as := [(.ref 3), (.int (o2085.2 42 2))]) (f' := (119, [some (.ref 42), some (.int x1), some (.int x2), some (.int x3), some (.int x4), some (.ref 3), some (.int (g337 + x1)), some (.int o2085.1), some (.int g339), none, none, none], [(.int g339)])) rfl (tX5_bearsOf (d + 2) (o2085.2 42 2) 3 o2085.2 J 3 sp rr w nw (Or.inl rfl) g340 hg340) (fun v h hq => ?_)
          obtain ⟨rfl, rfl⟩ := hq
          refine mm_T.br (c := g340 < g339) (a := ((122, [some (.ref 42), some (.int x1), some (.int x2), some (.int x3), some (.int x4), some (.ref 3), some (.int (g337 + x1)), some (.int o2085.1), some (.int g339), none, none, none], []), (107, o2085.2, J, mm_rf 3 sp rr w nw))) (b := ((126, [some (.ref 42), some (.int x1), some (.int x2), some (.int x3), some (.int x4), some (.ref 3), some (.int (g337 + x1)), some (.int o2085.1), some (.int g339), none, none, none], []), (107, o2085.2, J, mm_rf 3 sp rr w nw))) rfl (fun h2086 => ?_) (fun h2086 => ?_)
          · rw [if_pos h2086] at e
            refine mm_T.seg (f' := (132, [some (.ref 42), some (.int x1), some (.int x2), some (.int x3), some (.int x4), some (.ref 3), some (.int (g337 + x1)), some (.int o2085.1), some (.int g339), some (.int 1), some (.int (-1)), none], [])) (h' := (107, o2085.2, J, mm_rf 3 sp rr w nw)) 5 rfl ?_
            refine mm_T.mask [true, true, true, false, true, true, true, false, true, true, true, false] ?_
            obtain ⟨o2087, eo2087, e⟩ := mm_bind e
            refine tlX8_goOn_L132 d _ rec hrec n x1 x2 x4 (g337 + x1) g339 1 (-1) o2085.2 J 3 sp rr w nw (Or.inl rfl) o2087 eo2087 ?_
            cases e
            exact mm_T.ret rfl ⟨rfl, rfl⟩
          · rw [if_neg h2086] at e
            refine mm_T.seg (f' := (132, [some (.ref 42), some (.int x1), some (.int x2), some (.int x3), some (.int x4), some (.ref 3), some (.int (g337 + x1)), some (.int o2085.1), some (.int g339), some (.int 0), some (.int (-1)), none], [])) (h' := (107, o2085.2, J, mm_rf 3 sp rr w nw)) 4 rfl ?_
            refine mm_T.mask [true, true, true, false, true, true, true, false, true, true, true, false] ?_
            obtain ⟨o2088, eo2088, e⟩ := mm_bind e
            refine tlX8_goOn_L132 d _ rec hrec n x1 x2 x4 (g337 + x1) g339 0 (-1) o2085.2 J 3 sp rr w nw (Or.inl rfl) o2088 eo2088 ?_
            cases e
            exact mm_T.ret rfl ⟨rfl, rfl⟩
        · rw [if_neg h2084] at e
          refine mm_T.seg (f' := (37, [some (.ref 42), some (.int x1), some (.int x2), some (.int x3), some (.int x4), none, none, none, none, none, none, none], [(.int x4), (.int x3), (.int x2), (.ref 42)])) (h' := (107, I, J, mm_rf 3 sp rr w nw)) 4 rfl ?_
          obtain ⟨o2089, eo2089, e⟩ := mm_bind e
          refine mm_T.call (t := 128) (as := [(.ref 42), (.int x2), (.int x3), (.int x4)]) (f' := (40, [some (.ref 42), some (.int x1), some (.int x2), some (.int x3), some (.int x4), none, none, none, none, none, none, none], [])) rfl (tX8_noteIfCooler (d + 2) n x2 x3 x4 I J 3 sp rr w nw o2089 eo2089) (fun v h hq => ?_)
          obtain ⟨rfl, rfl⟩ := hq
          cases e
          exact mm_T.ret rfl ⟨rfl, rfl⟩
  · unfold fX8_goOn_B at e
    refine mm_T.seg (f' := (4, [some (.ref 42), some (.int x1), some (.int x2), some (.int x3), some (.int x4), none, none, none, none, none, none, none], [(.int (I 42 4))])) (h' := (107, I, J, mm_rf 19 sp rr w nw)) 2 rfl ?_
    refine mm_T.br (c := (I 42 4) = 0) (a := ((17, [some (.ref 42), some (.int x1), some (.int x2), some (.int x3), some (.int x4), none, none, none, none, none, none, none], []), (107, I, J, mm_rf 19 sp rr w nw))) (b := ((7, [some (.ref 42), some (.int x1), some (.int x2), some (.int x3), some (.int x4), none, none, none, none, none, none, none], []), (107, I, J, mm_rf 19 sp rr w nw))) rfl (fun h2059 => ?_) (fun h2059 => ?_)
    · rw [if_pos h2059] at e
      refine mm_T.seg (f' := (22, [some (.ref 42), some (.int x1), some (.int x2), some (.int x3), some (.int x4), none, none, none, none, none, none, none], [(.ref 18), (.int x1)])) (h' := (107, I, J, mm_rf 19 sp rr w nw)) 3 rfl ?_
      refine mm_T.seg (f' := (26, [some (.ref 42), some (.int x1), some (.int x2), some (.int x3), some (.int x4), none, none, none, none, none, none, none], [(.int (I 42 2)), (.ref 18), (.int x1)])) (h' := (107, I, J, mm_rf 19 sp rr w nw)) 2 rfl ?_
      obtain ⟨g329, hg329⟩ : ∃ z, fX7_strokesLeft (I 42 2) I 19 = z := ⟨_, rfl⟩
      try rw [hg329] at e
      refine mm_T.call (t := 111) (as := [(.ref 18), (.int (I 42 2))]) (f' := (29, [some (.ref 42), some (.int x1), some (.int x2), some (.int x3), some (.int x4), none, none, none, none, none, none, none], [(.int x1)])) rfl (tX7_strokesLeft (d + 0) (I 42 2) I J 19 sp rr w nw (Or.inr rfl) g329 hg329) (fun v h hq => ?_)
      obtain ⟨rfl, rfl⟩ := hq
      refine mm_T.br (c := x1 < g329) (a := ((41, [some (.ref 42), some (.int x1), some (.int x2), some (.int x3), some (.int x4), none, none, none, none, none, none, none], []), (107, I, J, mm_rf 19 sp rr w nw))) (b := ((32, [some (.ref 42), some (.int x1), some (.int x2), some (.int x3), some (.int x4), none, none, none, none, none, none, none], []), (107, I, J, mm_rf 19 sp rr w nw))) rfl (fun h2060 => ?_) (fun h2060 => ?_)
      · rw [if_pos h2060] at e
        refine mm_T.seg (f' := (45, [some (.ref 42), some (.int x1), some (.int x2), some (.int x3), some (.int x4), none, none, none, none, none, none, none], [(.ref 18)])) (h' := (107, I, J, mm_rf 19 sp rr w nw)) 2 rfl ?_
        refine mm_T.seg (f' := (54, [some (.ref 42), some (.int x1), some (.int x2), some (.int x3), some (.int x4), some (.ref 19), none, none, none, none, none, none], [(.ref 18)])) (h' := (107, I, J, mm_rf 19 sp rr w nw)) 4 rfl ?_
        refine mm_T.seg (f' := (58, [some (.ref 42), some (.int x1), some (.int x2), some (.int x3), some (.int x4), some (.ref 19), none, none, none, none, none, none], [(.int (I 42 2)), (.ref 18)])) (h' := (107, I, J, mm_rf 19 sp rr w nw)) 2 rfl ?_
        obtain ⟨g330, hg330⟩ : ∃ z, fX7_rowOf (I 42 2) I = z := ⟨_, rfl⟩
        try rw [hg330] at e
        refine mm_T.call (t := 106) (as := [(.ref 18), (.int (I 42 2))]) (f' := (61, [some (.ref 42), some (.int x1), some (.int x2), some (.int x3), some (.int x4), some (.ref 19), none, none, none, none, none, none], [])) rfl (tX7_rowOf (d + 1) (I 42 2) I J 19 sp rr w nw g330 hg330) (fun v h hq => ?_)
        obtain ⟨rfl, rfl⟩ := hq
        refine mm_T.seg (f' := (82, [some (.ref 42), some (.int x1), some (.int x2), some (.int x3), some (.int x4), some (.ref 19), some (.int (g330 + x1)), none, none, none, none, none], [(.ref 18), (.int (I 42 3)), (.int x2), (.int (g330 + x1)), (.int (I 42 2)), (.ref 19)])) (h' := (107, I, J, mm_rf 19 sp rr w nw)) 12 rfl ?_
        refine mm_T.seg (f' := (86, [some (.ref 42), some (.int x1), some (.int x2), some (.int x3), some (.int x4), some (.ref 19), some (.int (g330 + x1)), none, none, none, none, none], [(.int (I 42 2)), (.ref 18), (.int (I 42 3)), (.int x2), (.int (g330 + x1)), (.int (I 42 2)), (.ref 19)])) (h' := (107, I, J, mm_rf 19 sp rr w nw)) 2 rfl ?_
        obtain ⟨g331, hg331⟩ : ∃ z, fX7_strokesOf (I 42 2) I = z := ⟨_, rfl⟩
        try rw [hg331] at e
        refine mm_T.call (t := 110) (as := [(.ref 18), (.int (I 42 2))]) (f' := (89, [some (.ref 42), some (.int x1), some (.int x2), some (.int x3), some (.int x4), some (.ref 19), some (.int (g330 + x1)), none, none, none, none, none], [(.int (I 42 3)), (.int x2), (.int (g330 + x1)), (.int (I 42 2)), (.ref 19)])) rfl (tX7_strokesOf (d + 1) (I 42 2) I J 19 sp rr w nw g331 hg331) (fun v h hq => ?_)
        obtain ⟨rfl, rfl⟩ := hq
        refine mm_T.seg (f' := (92, [some (.ref 42), some (.int x1), some (.int x2), some (.int x3), some (.int x4), some (.ref 19), some (.int (g330 + x1)), none, none, none, none, none], [(.int x3), (.int (g331 + x1)), (.int (I 42 3)), (.int x2), (.int (g330 + x1)), (.int (I 42 2)), (.ref 19)])) (h' := (107, I, J, mm_rf 19 sp rr w nw)) 3 rfl ?_
        obtain ⟨o2061, eo2061, e⟩ := mm_bind e
        refine mm_T.call (t := 82) (as := [(.ref 19), (.int (I 42 2)), (.int (g330 + x1)), (.int x2), (.int (I 42 3)), (.int (g331 + x1)), (.int x3)]) (f' := (95, [some (.ref 42), some (.int x1), some (.int x2), some (.int x3), some (.int x4), some (.ref 19), some (.int (g330 + x1)), none, none, none, none, none], [])) rfl (tX5_warmth (d + 1) n (I 42 2) (g330 + x1) x2 (I 42 3) (g331 + x1) x3 19 I J 19 sp rr w nw (Or.inr rfl) o2061 eo2061) (fun v h hq => ?_)
        obtain ⟨rfl, rfl⟩ := hq
        refine mm_T.seg (f' := (103, [some (.ref 42), some (.int x1), some (.int x2), some (.int x3), some (.int x4), some (.ref 19), some (.int (g330 + x1)), some (.int o2061.1), none, none, none, none], [(.int (x3 + o2061.1)), (.int 99)])) (h' := (107, o2061.2, J, mm_rf 19 sp rr w nw)) 5 rfl ?_
        obtain ⟨g332, hg332⟩ : ∃ z, fJ9_min 99 (x3 + o2061.1) = z := ⟨_, rfl⟩
        try rw [hg332] at e
        refine mm_T.call (t := 348) (as := [(.int 99), (.int (x3 + o2061.1))]) (f' := (106, [some (.ref 42), some (.int x1), some (.int x2), some (.int x3), some (.int x4), some (.ref 19), some (.int (g330 + x1)), some (.int o2061.1), none, none, none, none], [])) rfl (tJ9_min (d + 3) 99 (x3 + o2061.1) o2061.2 J 19 sp rr w nw g332 hg332) (fun v h hq => ?_)
        obtain ⟨rfl, rfl⟩ := hq
        refine mm_T.seg (f' := (116, [some (.ref 42), some (.int x1), some (.int x2), some (.int x3), some (.int x4), some (.ref 19), some (.int (g330 + x1)), some (.int o2061.1), some (.int g332), none, none, none], [(.int (o2061.2 42 2)), (.ref 19), (.int g332)])) (h' := (107, o2061.2, J, mm_rf 19 sp rr w nw)) 5 rfl ?_
        obtain ⟨g333, hg333⟩ : ∃ z, fX5_bearsOf (o2061.2 42 2) 19 o2061.2 = z := ⟨_, rfl⟩
        try rw [hg333] at e
        refine mm_T.call (t := 79) (as := [(.ref 19), (.int (o2061.2 42 2))]) (f' := (119, [some (.ref 42), some (.int x1), some (.int x2), some (.int x3), some (.int x4), some (.ref 19), some (.int (g330 + x1)), some (.int o2061.1), some (.int g332), none, none, none], [(.int g332)])) rfl (tX5_bearsOf (d + 2) (o2061.2 42 2) 19 o2061.2 J 19 sp rr w nw (Or.inr rfl) g333 hg333) (fun v h hq => ?_)
        obtain ⟨rfl, rfl⟩ := hq
        refine mm_T.br (c := g333 < g332) (a := ((122, [some (.ref 42), some (.int x1), some (.int x2), some (.int x3), some (.int x4), some (.ref 19), some (.int (g330 + x1)), some (.int o2061.1), some (.int g332), none, none, none], []), (107, o2061.2, J, mm_rf 19 sp rr w nw))) (b := ((126, [some (.ref 42), some (.int x1), some (.int x2), some (.int x3), some (.int x4), some (.ref 19), some (.int (g330 + x1)), some (.int o2061.1), some (.int g332), none, none, none], []), (107, o2061.2, J, mm_rf 19 sp rr w nw))) rfl (fun h2062 => ?_) (fun h2062 => ?_)
        · rw [if_pos h2062] at e
          refine mm_T.seg (f' := (132, [some (.ref 42), some (.int x1), some (.int x2), some (.int x3), some (.int x4), some (.ref 19), some (.int (g330 + x1)), some (.int o2061.1), some (.int g332), some (.int 1), some (.int (-1)), none], [])) (h' := (107, o2061.2, J, mm_rf 19 sp rr w nw)) 5 rfl ?_
          refine mm_T.mask [true, true, true, false, true, true, true, false, true, true, true, false] ?_
          obtain ⟨o2072, eo2072, e⟩ := mm_bind e
          refine tlX8_goOn_L132 d _ rec hrec n x1 x2 x4 (g330 + x1) g332 1 (-1) o2061.2 J 19 sp rr w nw (Or.inr rfl) o2072 eo2072 ?_
          cases e
          exact mm_T.ret rfl ⟨rfl, rfl⟩
        · rw [if_neg h2062] at e
          refine mm_T.seg (f' := (132, [some (.ref 42), some (.int x1), some (.int x2), some (.int x3), some (.int x4), some (.ref 19), some (.int (g330 + x1)), some (.int o2061.1), some (.int g332), some (.int 0), some (.int (-1)), none], [])) (h' := (107, o2061.2, J, mm_rf 19 sp rr w nw)) 4 rfl ?_
          refine mm_T.mask [true, true, true, false, true, true, true, false, true, true, true, false] ?_
          obtain ⟨o2073, eo2073, e⟩ := mm_bind e
          refine tlX8_goOn_L132 d _ rec hrec n x1 x2 x4 (g330 + x1) g332 0 (-1) o2061.2 J 19 sp rr w nw (Or.inr rfl) o2073 eo2073 ?_
          cases e
          exact mm_T.ret rfl ⟨rfl, rfl⟩
      · rw [if_neg h2060] at e
        refine mm_T.seg (f' := (37, [some (.ref 42), some (.int x1), some (.int x2), some (.int x3), some (.int x4), none, none, none, none, none, none, none], [(.int x4), (.int x3), (.int x2), (.ref 42)])) (h' := (107, I, J, mm_rf 19 sp rr w nw)) 4 rfl ?_
        obtain ⟨o2082, eo2082, e⟩ := mm_bind e
        refine mm_T.call (t := 128) (as := [(.ref 42), (.int x2), (.int x3), (.int x4)]) (f' := (40, [some (.ref 42), some (.int x1), some (.int x2), some (.int x3), some (.int x4), none, none, none, none, none, none, none], [])) rfl (tX8_noteIfCooler (d + 2) n x2 x3 x4 I J 19 sp rr w nw o2082 eo2082) (fun v h hq => ?_)
        obtain ⟨rfl, rfl⟩ := hq
        cases e
        exact mm_T.ret rfl ⟨rfl, rfl⟩
    · rw [if_neg h2059] at e
      refine mm_T.seg (f' := (13, [some (.ref 42), some (.int x1), some (.int x2), some (.int x3), some (.int x4), none, none, none, none, none, none, none], [(.int (I 42 6)), (.int x4)])) (h' := (107, I, J, mm_rf 19 sp rr w nw)) 3 rfl ?_
      refine mm_T.br (c := (I 42 6) < x4) (a := ((16, [some (.ref 42), some (.int x1), some (.int x2), some (.int x3), some (.int x4), none, none, none, none, none, none, none], []), (107, I, J, mm_rf 19 sp rr w nw))) (b := ((17, [some (.ref 42), some (.int x1), some (.int x2), some (.int x3), some (.int x4), none, none, none, none, none, none, none], []), (107, I, J, mm_rf 19 sp rr w nw))) rfl (fun h2083 => ?_) (fun h2083 => ?_)
      · rw [if_pos h2083] at e
        cases e
        exact mm_T.ret rfl ⟨rfl, rfl⟩
      · rw [if_neg h2083] at e
        refine mm_T.seg (f' := (22, [some (.ref 42), some (.int x1), some (.int x2), some (.int x3), some (.int x4), none, none, none, none, none, none, none], [(.ref 18), (.int x1)])) (h' := (107, I, J, mm_rf 19 sp rr w nw)) 3 rfl ?_
        refine mm_T.seg (f' := (26, [some (.ref 42), some (.int x1), some (.int x2), some (.int x3), some (.int x4), none, none, none, none, none, none, none], [(.int (I 42 2)), (.ref 18), (.int x1)])) (h' := (107, I, J, mm_rf 19 sp rr w nw)) 2 rfl ?_
        obtain ⟨g336, hg336⟩ : ∃ z, fX7_strokesLeft (I 42 2) I 19 = z := ⟨_, rfl⟩
        try rw [hg336] at e
        refine mm_T.call (t := 111) (as := [(.ref 18), (.int (I 42 2))]) (f' := (29, [some (.ref 42), some (.int x1), some (.int x2), some (.int x3), some (.int x4), none, none, none, none, none, none, none], [(.int x1)])) rfl (tX7_strokesLeft (d + 0) (I 42 2) I J 19 sp rr w nw (Or.inr rfl) g336 hg336) (fun v h hq => ?_)
        obtain ⟨rfl, rfl⟩ := hq
        refine mm_T.br (c := x1 < g336) (a := ((41, [some (.ref 42), some (.int x1), some (.int x2), some (.int x3), some (.int x4), none, none, none, none, none, none, none], []), (107, I, J, mm_rf 19 sp rr w nw))) (b := ((32, [some (.ref 42), some (.int x1), some (.int x2), some (.int x3), some (.int x4), none, none, none, none, none, none, none], []), (107, I, J, mm_rf 19 sp rr w nw))) rfl (fun h2084 => ?_) (fun h2084 => ?_)
        · rw [if_pos h2084] at e
          refine mm_T.seg (f' := (45, [some (.ref 42), some (.int x1), some (.int x2), some (.int x3), some (.int x4), none, none, none, none, none, none, none], [(.ref 18)])) (h' := (107, I, J, mm_rf 19 sp rr w nw)) 2 rfl ?_
          refine mm_T.seg (f' := (54, [some (.ref 42), some (.int x1), some (.int x2), some (.int x3), some (.int x4), some (.ref 19), none, none, none, none, none, none], [(.ref 18)])) (h' := (107, I, J, mm_rf 19 sp rr w nw)) 4 rfl ?_
          refine mm_T.seg (f' := (58, [some (.ref 42), some (.int x1), some (.int x2), some (.int x3), some (.int x4), some (.ref 19), none, none, none, none, none, none], [(.int (I 42 2)), (.ref 18)])) (h' := (107, I, J, mm_rf 19 sp rr w nw)) 2 rfl ?_
          obtain ⟨g337, hg337⟩ : ∃ z, fX7_rowOf (I 42 2) I = z := ⟨_, rfl⟩
          try rw [hg337] at e
          refine mm_T.call (t := 106) (as := [(.ref 18), (.int (I 42 2))]) (f' := (61, [some (.ref 42), some (.int x1), some (.int x2), some (.int x3), some (.int x4), some (.ref 19), none, none, none, none, none, none], [])) rfl (tX7_rowOf (d + 1) (I 42 2) I J 19 sp rr w nw g337 hg337) (fun v h hq => ?_)
          obtain ⟨rfl, rfl⟩ := hq
          refine mm_T.seg (f' := (82, [some (.ref 42), some (.int x1), some (.int x2), some (.int x3), some (.int x4), some (.ref 19), some (.int (g337 + x1)), none, none, none, none, none], [(.ref 18), (.int (I 42 3)), (.int x2), (.int (g337 + x1)), (.int (I 42 2)), (.ref 19)])) (h' := (107, I, J, mm_rf 19 sp rr w nw)) 12 rfl ?_
          refine mm_T.seg (f' := (86, [some (.ref 42), some (.int x1), some (.int x2), some (.int x3), some (.int x4), some (.ref 19), some (.int (g337 + x1)), none, none, none, none, none], [(.int (I 42 2)), (.ref 18), (.int (I 42 3)), (.int x2), (.int (g337 + x1)), (.int (I 42 2)), (.ref 19)])) (h' := (107, I, J, mm_rf 19 sp rr w nw)) 2 rfl ?_
          obtain ⟨g338, hg338⟩ : ∃ z, fX7_strokesOf (I 42 2) I = z := ⟨_, rfl⟩
          try rw [hg338] at e
          refine mm_T.call (t := 110) (as := [(.ref 18), (.int (I 42 2))]) (f' := (89, [some (.ref 42), some (.int x1), some (.int x2), some (.int x3), some (.int x4), some (.ref 19), some (.int (g337 + x1)), none, none, none, none, none], [(.int (I 42 3)), (.int x2), (.int (g337 + x1)), (.int (I 42 2)), (.ref 19)])) rfl (tX7_strokesOf (d + 1) (I 42 2) I J 19 sp rr w nw g338 hg338) (fun v h hq => ?_)
          obtain ⟨rfl, rfl⟩ := hq
          refine mm_T.seg (f' := (92, [some (.ref 42), some (.int x1), some (.int x2), some (.int x3), some (.int x4), some (.ref 19), some (.int (g337 + x1)), none, none, none, none, none], [(.int x3), (.int (g338 + x1)), (.int (I 42 3)), (.int x2), (.int (g337 + x1)), (.int (I 42 2)), (.ref 19)])) (h' := (107, I, J, mm_rf 19 sp rr w nw)) 3 rfl ?_
          obtain ⟨o2085, eo2085, e⟩ := mm_bind e
          refine mm_T.call (t := 82) (as := [(.ref 19), (.int (I 42 2)), (.int (g337 + x1)), (.int x2), (.int (I 42 3)), (.int (g338 + x1)), (.int x3)]) (f' := (95, [some (.ref 42), some (.int x1), some (.int x2), some (.int x3), some (.int x4), some (.ref 19), some (.int (g337 + x1)), none, none, none, none, none], [])) rfl (tX5_warmth (d + 1) n (I 42 2) (g337 + x1) x2 (I 42 3) (g338 + x1) x3 19 I J 19 sp rr w nw (Or.inr rfl) o2085 eo2085) (fun v h hq => ?_)
          obtain ⟨rfl, rfl⟩ := hq
          refine mm_T.seg (f' := (103, [some (.ref 42), some (.int x1), some (.int x2), some (.int x3), some (.int x4), some (.ref 19), some (.int (g337 + x1)), some (.int o2085.1), none, none, none, none], [(.int (x3 + o2085.1)), (.int 99)])) (h' := (107, o2085.2, J, mm_rf 19 sp rr w nw)) 5 rfl ?_
          obtain ⟨g339, hg339⟩ : ∃ z, fJ9_min 99 (x3 + o2085.1) = z := ⟨_, rfl⟩
          try rw [hg339] at e
          refine mm_T.call (t := 348) (as := [(.int 99), (.int (x3 + o2085.1))]) (f' := (106, [some (.ref 42), some (.int x1), some (.int x2), some (.int x3), some (.int x4), some (.ref 19), some (.int (g337 + x1)), some (.int o2085.1), none, none, none, none], [])) rfl (tJ9_min (d + 3) 99 (x3 + o2085.1) o2085.2 J 19 sp rr w nw g339 hg339) (fun v h hq => ?_)
          obtain ⟨rfl, rfl⟩ := hq
          refine mm_T.seg (f' := (116, [some (.ref 42), some (.int x1), some (.int x2), some (.int x3), some (.int x4), some (.ref 19), some (.int (g337 + x1)), some (.int o2085.1), some (.int g339), none, none, none], [(.int (o2085.2 42 2)), (.ref 19), (.int g339)])) (h' := (107, o2085.2, J, mm_rf 19 sp rr w nw)) 5 rfl ?_
          obtain ⟨g340, hg340⟩ : ∃ z, fX5_bearsOf (o2085.2 42 2) 19 o2085.2 = z := ⟨_, rfl⟩
          try rw [hg340] at e
          refine mm_T.call (t := 79) (as := [(.ref 19), (.int (o2085.2 42 2))]) (f' := (119, [some (.ref 42), some (.int x1), some (.int x2), some (.int x3), some (.int x4), some (.ref 19), some (.int (g337 + x1)), some (.int o2085.1), some (.int g339), none, none, none], [(.int g339)])) rfl (tX5_bearsOf (d + 2) (o2085.2 42 2) 19 o2085.2 J 19 sp rr w nw (Or.inr rfl) g340 hg340) (fun v h hq => ?_)
          obtain ⟨rfl, rfl⟩ := hq
          refine mm_T.br (c := g340 < g339) (a := ((122, [some (.ref 42), some (.int x1), some (.int x2), some (.int x3), some (.int x4), some (.ref 19), some (.int (g337 + x1)), some (.int o2085.1), some (.int g339), none, none, none], []), (107, o2085.2, J, mm_rf 19 sp rr w nw))) (b := ((126, [some (.ref 42), some (.int x1), some (.int x2), some (.int x3), some (.int x4), some (.ref 19), some (.int (g337 + x1)), some (.int o2085.1), some (.int g339), none, none, none], []), (107, o2085.2, J, mm_rf 19 sp rr w nw))) rfl (fun h2086 => ?_) (fun h2086 => ?_)
          · rw [if_pos h2086] at e
            refine mm_T.seg (f' := (132, [some (.ref 42), some (.int x1), some (.int x2), some (.int x3), some (.int x4), some (.ref 19), some (.int (g337 + x1)), some (.int o2085.1), some (.int g339), some (.int 1), some (.int (-1)), none], [])) (h' := (107, o2085.2, J, mm_rf 19 sp rr w nw)) 5 rfl ?_
            refine mm_T.mask [true, true, true, false, true, true, true, false, true, true, true, false] ?_
            obtain ⟨o2087, eo2087, e⟩ := mm_bind e
            refine tlX8_goOn_L132 d _ rec hrec n x1 x2 x4 (g337 + x1) g339 1 (-1) o2085.2 J 19 sp rr w nw (Or.inr rfl) o2087 eo2087 ?_
            cases e
            exact mm_T.ret rfl ⟨rfl, rfl⟩
          · rw [if_neg h2086] at e
            refine mm_T.seg (f' := (132, [some (.ref 42), some (.int x1), some (.int x2), some (.int x3), some (.int x4), some (.ref 19), some (.int (g337 + x1)), some (.int o2085.1), some (.int g339), some (.int 0), some (.int (-1)), none], [])) (h' := (107, o2085.2, J, mm_rf 19 sp rr w nw)) 4 rfl ?_
            refine mm_T.mask [true, true, true, false, true, true, true, false, true, true, true, false] ?_
            obtain ⟨o2088, eo2088, e⟩ := mm_bind e
            refine tlX8_goOn_L132 d _ rec hrec n x1 x2 x4 (g337 + x1) g339 0 (-1) o2085.2 J 19 sp rr w nw (Or.inr rfl) o2088 eo2088 ?_
            cases e
            exact mm_T.ret rfl ⟨rfl, rfl⟩
        · rw [if_neg h2084] at e
          refine mm_T.seg (f' := (37, [some (.ref 42), some (.int x1), some (.int x2), some (.int x3), some (.int x4), none, none, none, none, none, none, none], [(.int x4), (.int x3), (.int x2), (.ref 42)])) (h' := (107, I, J, mm_rf 19 sp rr w nw)) 4 rfl ?_
          obtain ⟨o2089, eo2089, e⟩ := mm_bind e
          refine mm_T.call (t := 128) (as := [(.ref 42), (.int x2), (.int x3), (.int x4)]) (f' := (40, [some (.ref 42), some (.int x1), some (.int x2), some (.int x3), some (.int x4), none, none, none, none, none, none, none], [])) rfl (tX8_noteIfCooler (d + 2) n x2 x3 x4 I J 19 sp rr w nw o2089 eo2089) (fun v h hq => ?_)
          obtain ⟨rfl, rfl⟩ := hq
          cases e
          exact mm_T.ret rfl ⟨rfl, rfl⟩
theorem tX8_goOn (d n : Nat) : ∀ (q : Nat) (x1 : Int32) (x2 : Int32) (x3 : Int32) (x4 : Int32) (I : Nat → Nat → Int32) (J : Nat → Nat → Int64) (rv sp rr w nw : Nat), (rv = 3 ∨ rv = 19) → ∀ (out : (Nat → Nat → Int32)), fX8_goOn n q x1 x2 x3 x4 I rv = some out → mm_T none (d + 4 * q) 127 (mm_ent 127 [(.ref 42), (.int x1), (.int x2), (.int x3), (.int x4)]) (107, I, J, mm_rf rv sp rr w nw) (fun v h => v = none ∧ h = (107, out, J, mm_rf rv sp rr w nw)) := by
  intro q
  induction q with
  | zero =>
    intro x1 x2 x3 x4 I J rv sp rr w nw hrv out e
    rw [fX8_goOn] at e; cases e
  | succ q ih =>
    intro x1 x2 x3 x4 I J rv sp rr w nw hrv out e
    rw [fX8_goOn] at e
    exact tX8_goOn_B (d + 4 * q) n (fX8_goOn n q) ih x1 x2 x3 x4 I J rv sp rr w nw hrv out e
