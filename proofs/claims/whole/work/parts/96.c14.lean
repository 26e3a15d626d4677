set_option maxRecDepth 100000 in
set_option maxHeartbeats 4000000 in
theorem tlX3_addAll_49_L2 (d : Nat) (Q : Option Value → mm_H → Prop) : ∀ (n : Nat) (y2 : Int32) (y3 : Int32) (I : Nat → Nat → Int32) (J : Nat → Nat → Int64) (rv sp rr w nw : Nat), ∀ (out : (Nat → Nat → Int32)), fX3_addAll_49_L2 n y2 y3 I = some out → mm_T none (d + 1) 25 (26, [none, none, none, none], []) (107, out, J, mm_rf rv sp rr w nw) Q → mm_T none (d + 1) 25 (2, [some (.ref 35), some (.ref 49), some (.int y2), some (.int y3)], []) (107, I, J, mm_rf rv sp rr w nw) Q := by
  intro n
  induction n with
  | zero =>
    intro y2 y3 I J rv sp rr w nw out e k
    rw [fX3_addAll_49_L2] at e; cases e
  | succ n ih =>
    intro y2 y3 I J rv sp rr w nw out e k
    rw [fX3_addAll_49_L2] at e
    refine mm_T.seg (f' := (4, [some (.ref 35), some (.ref 49), some (.int y2), some (.int y3)], [(.int y2), (.int y3)])) (h' := (107, I, J, mm_rf rv sp rr w nw)) 2 rfl ?_
    refine mm_T.br (c := y3 < y2) (a := ((7, [some (.ref 35), some (.ref 49), some (.int y2), some (.int y3)], []), (107, I, J, mm_rf rv sp rr w nw))) (b := ((26, [some (.ref 35), some (.ref 49), some (.int y2), some (.int y3)], []), (107, I, J, mm_rf rv sp rr w nw))) rfl (fun h2369 => ?_) (fun h2369 => ?_)
    · rw [if_pos h2369] at e
      refine mm_T.seg (f' := (10, [some (.ref 35), some (.ref 49), some (.int y2), some (.int y3)], [(.int 7), (.int y3)])) (h' := (107, I, J, mm_rf rv sp rr w nw)) 3 rfl ?_
      refine mm_T.br (c := y3 < 7) (a := ((13, [some (.ref 35), some (.ref 49), some (.int y2), some (.int y3)], []), (107, I, J, mm_rf rv sp rr w nw))) (b := ((26, [some (.ref 35), some (.ref 49), some (.int y2), some (.int y3)], []), (107, I, J, mm_rf rv sp rr w nw))) rfl (fun h2370 => ?_) (fun h2370 => ?_)
      · rw [if_pos h2370] at e
        refine mm_T.seg (f' := (16, [some (.ref 35), some (.ref 49), some (.int y2), some (.int y3)], [(.int y3), (.ref 49), (.ref 35)])) (h' := (107, I, J, mm_rf rv sp rr w nw)) 3 rfl ?_
        by_cases h2371 : y3 < 0 ∨ 7 ≤ y3.toNatClampNeg
        · rw [if_pos h2371] at e; cases e
        rw [if_neg h2371] at e
        refine mm_T.guard (y := ((17, [some (.ref 35), some (.ref 49), some (.int y2), some (.int y3)], [(.int (I 49 y3.toNatClampNeg)), (.ref 35)]), (107, I, J, mm_rf rv sp rr w nw))) rfl h2371 ?_
        obtain ⟨o2372, eo2372, e⟩ := mm_bind e
        refine mm_T.call (t := 24) (as := [(.ref 35), (.int (I 49 y3.toNatClampNeg))]) (f' := (20, [some (.ref 35), some (.ref 49), some (.int y2), some (.int y3)], [])) rfl (tX3_add (d + 0) (I 49 y3.toNatClampNeg) I J rv sp rr w nw o2372 eo2372) (fun v h hq => ?_)
        obtain ⟨rfl, rfl⟩ := hq
        refine mm_T.seg (f' := (2, [some (.ref 35), some (.ref 49), some (.int y2), some (.int (y3 + 1))], [])) (h' := (107, o2372, J, mm_rf rv sp rr w nw)) 2 rfl ?_
        refine mm_T.mask [true, true, true, true] ?_
        exact ih y2 (y3 + 1) o2372 J rv sp rr w nw out e k
      · rw [if_neg h2370] at e
        cases e
        refine mm_T.mask [false, false, false, false] ?_
        exact k
    · rw [if_neg h2369] at e
      cases e
      refine mm_T.mask [false, false, false, false] ?_
      exact k
set_option maxRecDepth 100000 in
set_option maxHeartbeats 4000000 in
theorem tX3_addAll_49 (d n : Nat) (x2 : Int32) (I : Nat → Nat → Int32) (J : Nat → Nat → Int64) (rv sp rr w nw : Nat) (out : (Nat → Nat → Int32)) (e : fX3_addAll_49 n x2 I = some out) : mm_T none (d + 1) 25 (mm_ent 25 [(.ref 35), (.ref 49), (.int x2)]) (107, I, J, mm_rf rv sp rr w nw) (fun v h => v = none ∧ h = (107, out, J, mm_rf rv sp rr w nw)) := by
  unfold fX3_addAll_49 at e
  refine mm_T.seg (f' := (2, [some (.ref 35), some (.ref 49), some (.int x2), some (.int 0)], [])) (h' := (107, I, J, mm_rf rv sp rr w nw)) 2 rfl ?_
  refine mm_T.mask [true, true, true, true] ?_
  obtain ⟨o2373, eo2373, e⟩ := mm_bind e
  refine tlX3_addAll_49_L2 d _ n x2 0 I J rv sp rr w nw o2373 eo2373 ?_
  cases e
  exact mm_T.ret rfl ⟨rfl, rfl⟩
set_option maxRecDepth 100000 in
set_option maxHeartbeats 4000000 in
theorem tX11_trips (d n : Nat) (x1 : Int32) (I : Nat → Nat → Int32) (J : Nat → Nat → Int64) (rv sp rr w nw : Nat) (hrv : rv = 3 ∨ rv = 19) (out : Int32 × (Nat → Nat → Int32)) (e : fX11_trips n x1 I rv = some out) : mm_T none (d + 30) 181 (mm_ent 181 [(.ref 1), (.int x1)]) (107, I, J, mm_rf rv sp rr w nw) (fun v h => v = some (.int out.1) ∧ h = (107, out.2, J, mm_rf rv sp rr w nw)) := by
  rcases hrv with rfl | rfl
  · unfold fX11_trips at e
    refine mm_T.seg (f' := (4, [some (.ref 1), some (.int x1), none], [(.ref 35)])) (h' := (107, I, J, mm_rf 3 sp rr w nw)) 2 rfl ?_
    obtain ⟨g462, hg462⟩ : ∃ z, fX3_clear I = z := ⟨_, rfl⟩
    try rw [hg462] at e
    refine mm_T.call (t := 23) (as := [(.ref 35)]) (f' := (7, [some (.ref 1), some (.int x1), none], [])) rfl (tX3_clear (d + 29) I J 3 sp rr w nw g462 hg462) (fun v h hq => ?_)
    obtain ⟨rfl, rfl⟩ := hq
    refine mm_T.seg (f' := (11, [some (.ref 1), some (.int x1), none], [(.ref 18)])) (h' := (107, g462, J, mm_rf 3 sp rr w nw)) 2 rfl ?_
    refine mm_T.seg (f' := (12, [some (.ref 1), some (.int x1), none], [(.int x1), (.ref 18)])) (h' := (107, g462, J, mm_rf 3 sp rr w nw)) 1 rfl ?_
    obtain ⟨g463, hg463⟩ : ∃ z, fX7_isBoard x1 g462 3 = z := ⟨_, rfl⟩
    try rw [hg463] at e
    refine mm_T.call (t := 101) (as := [(.ref 18), (.int x1)]) (f' := (15, [some (.ref 1), some (.int x1), none], [])) rfl (tX7_isBoard (d + 29) x1 g462 J 3 sp rr w nw (Or.inl rfl) g463 hg463) (fun v h hq => ?_)
    obtain ⟨rfl, rfl⟩ := hq
    refine mm_T.br (c := g463 = 0) (a := ((18, [some (.ref 1), some (.int x1), none], []), (107, g462, J, mm_rf 3 sp rr w nw))) (b := ((20, [some (.ref 1), some (.int x1), none], []), (107, g462, J, mm_rf 3 sp rr w nw))) rfl (fun h2366 => ?_) (fun h2366 => ?_)
    · rw [if_pos h2366] at e
      refine mm_T.seg (f' := (19, [some (.ref 1), some (.int x1), none], [(.int (-1))])) (h' := (107, g462, J, mm_rf 3 sp rr w nw)) 1 rfl ?_
      cases e
      exact mm_T.ret rfl ⟨rfl, rfl⟩
    · rw [if_neg h2366] at e
      refine mm_T.seg (f' := (24, [some (.ref 1), some (.int x1), none], [(.ref 45)])) (h' := (107, g462, J, mm_rf 3 sp rr w nw)) 2 rfl ?_
      refine mm_T.seg (f' := (25, [some (.ref 1), some (.int x1), none], [(.int x1), (.ref 45)])) (h' := (107, g462, J, mm_rf 3 sp rr w nw)) 1 rfl ?_
      obtain ⟨o2367, eo2367, e⟩ := mm_bind e
      refine mm_T.call (t := 133) (as := [(.ref 45), (.int x1)]) (f' := (28, [some (.ref 1), some (.int x1), none], [])) rfl (tX9_findTrips (d + 0) n x1 g462 J 3 sp rr w nw (Or.inl rfl) o2367 eo2367) (fun v h hq => ?_)
      obtain ⟨rfl, rfl⟩ := hq
      refine mm_T.seg (f' := (31, [some (.ref 1), some (.int x1), some (.int o2367.1)], [(.int (-1)), (.int o2367.1)])) (h' := (107, o2367.2, J, mm_rf 3 sp rr w nw)) 3 rfl ?_
      refine mm_T.br (c := o2367.1 = (-1)) (a := ((58, [some (.ref 1), some (.int x1), some (.int o2367.1)], []), (107, o2367.2, J, mm_rf 3 sp rr w nw))) (b := ((34, [some (.ref 1), some (.int x1), some (.int o2367.1)], []), (107, o2367.2, J, mm_rf 3 sp rr w nw))) rfl (fun h2368 => ?_) (fun h2368 => ?_)
      · rw [if_pos h2368] at e
        refine mm_T.seg (f' := (59, [some (.ref 1), some (.int x1), some (.int o2367.1)], [(.int o2367.1)])) (h' := (107, o2367.2, J, mm_rf 3 sp rr w nw)) 1 rfl ?_
        cases e
        exact mm_T.ret rfl ⟨rfl, rfl⟩
      · rw [if_neg h2368] at e
        refine mm_T.seg (f' := (38, [some (.ref 1), some (.int x1), some (.int o2367.1)], [(.ref 35)])) (h' := (107, o2367.2, J, mm_rf 3 sp rr w nw)) 2 rfl ?_
        refine mm_T.seg (f' := (42, [some (.ref 1), some (.int x1), some (.int o2367.1)], [(.ref 45), (.ref 35)])) (h' := (107, o2367.2, J, mm_rf 3 sp rr w nw)) 2 rfl ?_
        refine mm_T.seg (f' := (49, [some (.ref 1), some (.int x1), some (.int o2367.1)], [(.ref 18), (.ref 49), (.ref 35)])) (h' := (107, o2367.2, J, mm_rf 3 sp rr w nw)) 3 rfl ?_
        refine mm_T.seg (f' := (55, [some (.ref 1), some (.int x1), some (.int o2367.1)], [(.int (o2367.2 3 5)), (.ref 49), (.ref 35)])) (h' := (107, o2367.2, J, mm_rf 3 sp rr w nw)) 2 rfl ?_
        obtain ⟨o2374, eo2374, e⟩ := mm_bind e
        refine mm_T.call (t := 25) (as := [(.ref 35), (.ref 49), (.int (o2367.2 3 5))]) (f' := (58, [some (.ref 1), some (.int x1), some (.int o2367.1)], [])) rfl (tX3_addAll_49 (d + 28) n (o2367.2 3 5) o2367.2 J 3 sp rr w nw o2374 eo2374) (fun v h hq => ?_)
        obtain ⟨rfl, rfl⟩ := hq
        refine mm_T.seg (f' := (59, [some (.ref 1), some (.int x1), some (.int o2367.1)], [(.int o2367.1)])) (h' := (107, o2374, J, mm_rf 3 sp rr w nw)) 1 rfl ?_
        cases e
        exact mm_T.ret rfl ⟨rfl, rfl⟩
  · unfold fX11_trips at e
    refine mm_T.seg (f' := (4, [some (.ref 1), some (.int x1), none], [(.ref 35)])) (h' := (107, I, J, mm_rf 19 sp rr w nw)) 2 rfl ?_
    obtain ⟨g462, hg462⟩ : ∃ z, fX3_clear I = z := ⟨_, rfl⟩
    try rw [hg462] at e
    refine mm_T.call (t := 23) (as := [(.ref 35)]) (f' := (7, [some (.ref 1), some (.int x1), none], [])) rfl (tX3_clear (d + 29) I J 19 sp rr w nw g462 hg462) (fun v h hq => ?_)
    obtain ⟨rfl, rfl⟩ := hq
    refine mm_T.seg (f' := (11, [some (.ref 1), some (.int x1), none], [(.ref 18)])) (h' := (107, g462, J, mm_rf 19 sp rr w nw)) 2 rfl ?_
    refine mm_T.seg (f' := (12, [some (.ref 1), some (.int x1), none], [(.int x1), (.ref 18)])) (h' := (107, g462, J, mm_rf 19 sp rr w nw)) 1 rfl ?_
    obtain ⟨g463, hg463⟩ : ∃ z, fX7_isBoard x1 g462 19 = z := ⟨_, rfl⟩
    try rw [hg463] at e
    refine mm_T.call (t := 101) (as := [(.ref 18), (.int x1)]) (f' := (15, [some (.ref 1), some (.int x1), none], [])) rfl (tX7_isBoard (d + 29) x1 g462 J 19 sp rr w nw (Or.inr rfl) g463 hg463) (fun v h hq => ?_)
    obtain ⟨rfl, rfl⟩ := hq
    refine mm_T.br (c := g463 = 0) (a := ((18, [some (.ref 1), some (.int x1), none], []), (107, g462, J, mm_rf 19 sp rr w nw))) (b := ((20, [some (.ref 1), some (.int x1), none], []), (107, g462, J, mm_rf 19 sp rr w nw))) rfl (fun h2366 => ?_) (fun h2366 => ?_)
    · rw [if_pos h2366] at e
      refine mm_T.seg (f' := (19, [some (.ref 1), some (.int x1), none], [(.int (-1))])) (h' := (107, g462, J, mm_rf 19 sp rr w nw)) 1 rfl ?_
      cases e
      exact mm_T.ret rfl ⟨rfl, rfl⟩
    · rw [if_neg h2366] at e
      refine mm_T.seg (f' := (24, [some (.ref 1), some (.int x1), none], [(.ref 45)])) (h' := (107, g462, J, mm_rf 19 sp rr w nw)) 2 rfl ?_
      refine mm_T.seg (f' := (25, [some (.ref 1), some (.int x1), none], [(.int x1), (.ref 45)])) (h' := (107, g462, J, mm_rf 19 sp rr w nw)) 1 rfl ?_
      obtain ⟨o2367, eo2367, e⟩ := mm_bind e
      refine mm_T.call (t := 133) (as := [(.ref 45), (.int x1)]) (f' := (28, [some (.ref 1), some (.int x1), none], [])) rfl (tX9_findTrips (d + 0) n x1 g462 J 19 sp rr w nw (Or.inr rfl) o2367 eo2367) (fun v h hq => ?_)
      obtain ⟨rfl, rfl⟩ := hq
      refine mm_T.seg (f' := (31, [some (.ref 1), some (.int x1), some (.int o2367.1)], [(.int (-1)), (.int o2367.1)])) (h' := (107, o2367.2, J, mm_rf 19 sp rr w nw)) 3 rfl ?_
      refine mm_T.br (c := o2367.1 = (-1)) (a := ((58, [some (.ref 1), some (.int x1), some (.int o2367.1)], []), (107, o2367.2, J, mm_rf 19 sp rr w nw))) (b := ((34, [some (.ref 1), some (.int x1), some (.int o2367.1)], []), (107, o2367.2, J, mm_rf 19 sp rr w nw))) rfl (fun h2368 => ?_) (fun h2368 => ?_)
      · rw [if_pos h2368] at e
        refine mm_T.seg (f' := (59, [some (.ref 1), some (.int x1), some (.int o2367.1)], [(.int o2367.1)])) (h' := (107, o2367.2, J, mm_rf 19 sp rr w nw)) 1 rfl ?_
        cases e
        exact mm_T.ret rfl ⟨rfl, rfl⟩
      · rw [if_neg h2368] at e
        refine mm_T.seg (f' := (38, [some (.ref 1), some (.int x1), some (.int o2367.1)], [(.ref 35)])) (h' := (107, o2367.2, J, mm_rf 19 sp rr w nw)) 2 rfl ?_
        refine mm_T.seg (f' := (42, [some (.ref 1), some (.int x1), some (.int o2367.1)], [(.ref 45), (.ref 35)])) (h' := (107, o2367.2, J, mm_rf 19 sp rr w nw)) 2 rfl ?_
        refine mm_T.seg (f' := (49, [some (.ref 1), some (.int x1), some (.int o2367.1)], [(.ref 18), (.ref 49), (.ref 35)])) (h' := (107, o2367.2, J, mm_rf 19 sp rr w nw)) 3 rfl ?_
        refine mm_T.seg (f' := (55, [some (.ref 1), some (.int x1), some (.int o2367.1)], [(.int (o2367.2 19 5)), (.ref 49), (.ref 35)])) (h' := (107, o2367.2, J, mm_rf 19 sp rr w nw)) 2 rfl ?_
        obtain ⟨o2374, eo2374, e⟩ := mm_bind e
        refine mm_T.call (t := 25) (as := [(.ref 35), (.ref 49), (.int (o2367.2 19 5))]) (f' := (58, [some (.ref 1), some (.int x1), some (.int o2367.1)], [])) rfl (tX3_addAll_49 (d + 28) n (o2367.2 19 5) o2367.2 J 19 sp rr w nw o2374 eo2374) (fun v h hq => ?_)
        obtain ⟨rfl, rfl⟩ := hq
        refine mm_T.seg (f' := (59, [some (.ref 1), some (.int x1), some (.int o2367.1)], [(.int o2367.1)])) (h' := (107, o2374, J, mm_rf 19 sp rr w nw)) 1 rfl ?_
        cases e
        exact mm_T.ret rfl ⟨rfl, rfl⟩
set_option maxRecDepth 100000 in
set_option maxHeartbeats 4000000 in
theorem tX11_stowing (d n : Nat) (I : Nat → Nat → Int32) (J : Nat → Nat → Int64) (rv sp rr w nw : Nat) (hrv : rv = 3 ∨ rv = 19) (out : Int32 × (Nat → Nat → Int32)) (e : fX11_stowing n I rv = some out) : mm_T none (d + 30) 182 (mm_ent 182 [(.ref 1)]) (107, I, J, mm_rf rv sp rr w nw) (fun v h => v = some (.int out.1) ∧ h = (107, out.2, J, mm_rf rv sp rr w nw)) := by
  rcases hrv with rfl | rfl
  · unfold fX11_stowing at e
    refine mm_T.seg (f' := (4, [some (.ref 1), none], [(.ref 35)])) (h' := (107, I, J, mm_rf 3 sp rr w nw)) 2 rfl ?_
    obtain ⟨g464, hg464⟩ : ∃ z, fX3_clear I = z := ⟨_, rfl⟩
    try rw [hg464] at e
    refine mm_T.call (t := 23) (as := [(.ref 35)]) (f' := (7, [some (.ref 1), none], [])) rfl (tX3_clear (d + 29) I J 3 sp rr w nw g464 hg464) (fun v h hq => ?_)
    obtain ⟨rfl, rfl⟩ := hq
    refine mm_T.seg (f' := (11, [some (.ref 1), none], [(.ref 45)])) (h' := (107, g464, J, mm_rf 3 sp rr w nw)) 2 rfl ?_
    obtain ⟨o2375, eo2375, e⟩ := mm_bind e
    refine mm_T.call (t := 134) (as := [(.ref 45)]) (f' := (14, [some (.ref 1), none], [])) rfl (tX9_findStowing (d + 0) n g464 J 3 sp rr w nw (Or.inl rfl) o2375 eo2375) (fun v h hq => ?_)
    obtain ⟨rfl, rfl⟩ := hq
    refine mm_T.seg (f' := (17, [some (.ref 1), some (.int o2375.1)], [(.int (-1)), (.int o2375.1)])) (h' := (107, o2375.2, J, mm_rf 3 sp rr w nw)) 3 rfl ?_
    refine mm_T.br (c := o2375.1 = (-1)) (a := ((44, [some (.ref 1), some (.int o2375.1)], []), (107, o2375.2, J, mm_rf 3 sp rr w nw))) (b := ((20, [some (.ref 1), some (.int o2375.1)], []), (107, o2375.2, J, mm_rf 3 sp rr w nw))) rfl (fun h2376 => ?_) (fun h2376 => ?_)
    · rw [if_pos h2376] at e
      refine mm_T.seg (f' := (45, [some (.ref 1), some (.int o2375.1)], [(.int o2375.1)])) (h' := (107, o2375.2, J, mm_rf 3 sp rr w nw)) 1 rfl ?_
      cases e
      exact mm_T.ret rfl ⟨rfl, rfl⟩
    · rw [if_neg h2376] at e
      refine mm_T.seg (f' := (24, [some (.ref 1), some (.int o2375.1)], [(.ref 35)])) (h' := (107, o2375.2, J, mm_rf 3 sp rr w nw)) 2 rfl ?_
      refine mm_T.seg (f' := (28, [some (.ref 1), some (.int o2375.1)], [(.ref 45), (.ref 35)])) (h' := (107, o2375.2, J, mm_rf 3 sp rr w nw)) 2 rfl ?_
      refine mm_T.seg (f' := (35, [some (.ref 1), some (.int o2375.1)], [(.ref 18), (.ref 49), (.ref 35)])) (h' := (107, o2375.2, J, mm_rf 3 sp rr w nw)) 3 rfl ?_
      refine mm_T.seg (f' := (41, [some (.ref 1), some (.int o2375.1)], [(.int (o2375.2 3 5)), (.ref 49), (.ref 35)])) (h' := (107, o2375.2, J, mm_rf 3 sp rr w nw)) 2 rfl ?_
      obtain ⟨o2377, eo2377, e⟩ := mm_bind e
      refine mm_T.call (t := 25) (as := [(.ref 35), (.ref 49), (.int (o2375.2 3 5))]) (f' := (44, [some (.ref 1), some (.int o2375.1)], [])) rfl (tX3_addAll_49 (d + 28) n (o2375.2 3 5) o2375.2 J 3 sp rr w nw o2377 eo2377) (fun v h hq => ?_)
      obtain ⟨rfl, rfl⟩ := hq
      refine mm_T.seg (f' := (45, [some (.ref 1), some (.int o2375.1)], [(.int o2375.1)])) (h' := (107, o2377, J, mm_rf 3 sp rr w nw)) 1 rfl ?_
      cases e
      exact mm_T.ret rfl ⟨rfl, rfl⟩
  · unfold fX11_stowing at e
    refine mm_T.seg (f' := (4, [some (.ref 1), none], [(.ref 35)])) (h' := (107, I, J, mm_rf 19 sp rr w nw)) 2 rfl ?_
    obtain ⟨g464, hg464⟩ : ∃ z, fX3_clear I = z := ⟨_, rfl⟩
    try rw [hg464] at e
    refine mm_T.call (t := 23) (as := [(.ref 35)]) (f' := (7, [some (.ref 1), none], [])) rfl (tX3_clear (d + 29) I J 19 sp rr w nw g464 hg464) (fun v h hq => ?_)
    obtain ⟨rfl, rfl⟩ := hq
    refine mm_T.seg (f' := (11, [some (.ref 1), none], [(.ref 45)])) (h' := (107, g464, J, mm_rf 19 sp rr w nw)) 2 rfl ?_
    obtain ⟨o2375, eo2375, e⟩ := mm_bind e
    refine mm_T.call (t := 134) (as := [(.ref 45)]) (f' := (14, [some (.ref 1), none], [])) rfl (tX9_findStowing (d + 0) n g464 J 19 sp rr w nw (Or.inr rfl) o2375 eo2375) (fun v h hq => ?_)
    obtain ⟨rfl, rfl⟩ := hq
    refine mm_T.seg (f' := (17, [some (.ref 1), some (.int o2375.1)], [(.int (-1)), (.int o2375.1)])) (h' := (107, o2375.2, J, mm_rf 19 sp rr w nw)) 3 rfl ?_
    refine mm_T.br (c := o2375.1 = (-1)) (a := ((44, [some (.ref 1), some (.int o2375.1)], []), (107, o2375.2, J, mm_rf 19 sp rr w nw))) (b := ((20, [some (.ref 1), some (.int o2375.1)], []), (107, o2375.2, J, mm_rf 19 sp rr w nw))) rfl (fun h2376 => ?_) (fun h2376 => ?_)
    · rw [if_pos h2376] at e
      refine mm_T.seg (f' := (45, [some (.ref 1), some (.int o2375.1)], [(.int o2375.1)])) (h' := (107, o2375.2, J, mm_rf 19 sp rr w nw)) 1 rfl ?_
      cases e
      exact mm_T.ret rfl ⟨rfl, rfl⟩
    · rw [if_neg h2376] at e
      refine mm_T.seg (f' := (24, [some (.ref 1), some (.int o2375.1)], [(.ref 35)])) (h' := (107, o2375.2, J, mm_rf 19 sp rr w nw)) 2 rfl ?_
      refine mm_T.seg (f' := (28, [some (.ref 1), some (.int o2375.1)], [(.ref 45), (.ref 35)])) (h' := (107, o2375.2, J, mm_rf 19 sp rr w nw)) 2 rfl ?_
      refine mm_T.seg (f' := (35, [some (.ref 1), some (.int o2375.1)], [(.ref 18), (.ref 49), (.ref 35)])) (h' := (107, o2375.2, J, mm_rf 19 sp rr w nw)) 3 rfl ?_
      refine mm_T.seg (f' := (41, [some (.ref 1), some (.int o2375.1)], [(.int (o2375.2 19 5)), (.ref 49), (.ref 35)])) (h' := (107, o2375.2, J, mm_rf 19 sp rr w nw)) 2 rfl ?_
      obtain ⟨o2377, eo2377, e⟩ := mm_bind e
      refine mm_T.call (t := 25) (as := [(.ref 35), (.ref 49), (.int (o2375.2 19 5))]) (f' := (44, [some (.ref 1), some (.int o2375.1)], [])) rfl (tX3_addAll_49 (d + 28) n (o2375.2 19 5) o2375.2 J 19 sp rr w nw o2377 eo2377) (fun v h hq => ?_)
      obtain ⟨rfl, rfl⟩ := hq
      refine mm_T.seg (f' := (45, [some (.ref 1), some (.int o2375.1)], [(.int o2375.1)])) (h' := (107, o2377, J, mm_rf 19 sp rr w nw)) 1 rfl ?_
      cases e
      exact mm_T.ret rfl ⟨rfl, rfl⟩
set_option maxRecDepth 100000 in
set_option maxHeartbeats 4000000 in
theorem tX11_meet (d n : Nat) (x1 : Int32) (x2 : Int32) (I : Nat → Nat → Int32) (J : Nat → Nat → Int64) (rv sp rr w nw : Nat) (hrv : rv = 3 ∨ rv = 19) (out : Int32) (e : fX11_meet n x1 x2 I rv = some out) : mm_T none (d + 4) 183 (mm_ent 183 [(.ref 1), (.int x1), (.int x2)]) (107, I, J, mm_rf rv sp rr w nw) (fun v h => v = some (.int out) ∧ h = (107, I, J, mm_rf rv sp rr w nw)) := by
  rcases hrv with rfl | rfl
  · unfold fX11_meet at e
    refine mm_T.seg (f' := (4, [some (.ref 1), some (.int x1), some (.int x2)], [(.ref 18)])) (h' := (107, I, J, mm_rf 3 sp rr w nw)) 2 rfl ?_
    refine mm_T.seg (f' := (5, [some (.ref 1), some (.int x1), some (.int x2)], [(.int x1), (.ref 18)])) (h' := (107, I, J, mm_rf 3 sp rr w nw)) 1 rfl ?_
    obtain ⟨g465, hg465⟩ : ∃ z, fX7_isBoard x1 I 3 = z := ⟨_, rfl⟩
    try rw [hg465] at e
    refine mm_T.call (t := 101) (as := [(.ref 18), (.int x1)]) (f' := (8, [some (.ref 1), some (.int x1), some (.int x2)], [])) rfl (tX7_isBoard (d + 3) x1 I J 3 sp rr w nw (Or.inl rfl) g465 hg465) (fun v h hq => ?_)
    obtain ⟨rfl, rfl⟩ := hq
    refine mm_T.br (c := g465 = 0) (a := ((27, [some (.ref 1), some (.int x1), some (.int x2)], []), (107, I, J, mm_rf 3 sp rr w nw))) (b := ((11, [some (.ref 1), some (.int x1), some (.int x2)], []), (107, I, J, mm_rf 3 sp rr w nw))) rfl (fun h2378 => ?_) (fun h2378 => ?_)
    · rw [if_pos h2378] at e
      refine mm_T.seg (f' := (28, [some (.ref 1), some (.int x1), some (.int x2)], [(.int (-1))])) (h' := (107, I, J, mm_rf 3 sp rr w nw)) 1 rfl ?_
      cases e
      exact mm_T.ret rfl ⟨rfl, rfl⟩
    · rw [if_neg h2378] at e
      refine mm_T.seg (f' := (15, [some (.ref 1), some (.int x1), some (.int x2)], [(.ref 18)])) (h' := (107, I, J, mm_rf 3 sp rr w nw)) 2 rfl ?_
      refine mm_T.seg (f' := (16, [some (.ref 1), some (.int x1), some (.int x2)], [(.int x2), (.ref 18)])) (h' := (107, I, J, mm_rf 3 sp rr w nw)) 1 rfl ?_
      obtain ⟨g466, hg466⟩ : ∃ z, fX7_isBoard x2 I 3 = z := ⟨_, rfl⟩
      try rw [hg466] at e
      refine mm_T.call (t := 101) (as := [(.ref 18), (.int x2)]) (f' := (19, [some (.ref 1), some (.int x1), some (.int x2)], [])) rfl (tX7_isBoard (d + 3) x2 I J 3 sp rr w nw (Or.inl rfl) g466 hg466) (fun v h hq => ?_)
      obtain ⟨rfl, rfl⟩ := hq
      refine mm_T.br (c := g466 = 0) (a := ((27, [some (.ref 1), some (.int x1), some (.int x2)], []), (107, I, J, mm_rf 3 sp rr w nw))) (b := ((22, [some (.ref 1), some (.int x1), some (.int x2)], []), (107, I, J, mm_rf 3 sp rr w nw))) rfl (fun h2379 => ?_) (fun h2379 => ?_)
      · rw [if_pos h2379] at e
        refine mm_T.seg (f' := (28, [some (.ref 1), some (.int x1), some (.int x2)], [(.int (-1))])) (h' := (107, I, J, mm_rf 3 sp rr w nw)) 1 rfl ?_
        cases e
        exact mm_T.ret rfl ⟨rfl, rfl⟩
      · rw [if_neg h2379] at e
        refine mm_T.seg (f' := (24, [some (.ref 1), some (.int x1), some (.int x2)], [(.int x2), (.int x1)])) (h' := (107, I, J, mm_rf 3 sp rr w nw)) 2 rfl ?_
        refine mm_T.br (c := x1 = x2) (a := ((27, [some (.ref 1), some (.int x1), some (.int x2)], []), (107, I, J, mm_rf 3 sp rr w nw))) (b := ((29, [some (.ref 1), some (.int x1), some (.int x2)], []), (107, I, J, mm_rf 3 sp rr w nw))) rfl (fun h2380 => ?_) (fun h2380 => ?_)
        · rw [if_pos h2380] at e
          refine mm_T.seg (f' := (28, [some (.ref 1), some (.int x1), some (.int x2)], [(.int (-1))])) (h' := (107, I, J, mm_rf 3 sp rr w nw)) 1 rfl ?_
          cases e
          exact mm_T.ret rfl ⟨rfl, rfl⟩
        · rw [if_neg h2380] at e
          refine mm_T.seg (f' := (33, [some (.ref 1), some (.int x1), some (.int x2)], [(.ref 37)])) (h' := (107, I, J, mm_rf 3 sp rr w nw)) 2 rfl ?_
          refine mm_T.seg (f' := (35, [some (.ref 1), some (.int x1), some (.int x2)], [(.int x2), (.int x1), (.ref 37)])) (h' := (107, I, J, mm_rf 3 sp rr w nw)) 2 rfl ?_
          obtain ⟨o2381, eo2381, e⟩ := mm_bind e
          refine mm_T.call (t := 94) (as := [(.ref 37), (.int x1), (.int x2)]) (f' := (38, [some (.ref 1), some (.int x1), some (.int x2)], [])) rfl (tX6_strokesToMeet (d + 0) n x1 x2 I J 3 sp rr w nw (Or.inl rfl) o2381 eo2381) (fun v h hq => ?_)
          obtain ⟨rfl, rfl⟩ := hq
          cases e
          exact mm_T.ret rfl ⟨rfl, rfl⟩
  · unfold fX11_meet at e
    refine mm_T.seg (f' := (4, [some (.ref 1), some (.int x1), some (.int x2)], [(.ref 18)])) (h' := (107, I, J, mm_rf 19 sp rr w nw)) 2 rfl ?_
    refine mm_T.seg (f' := (5, [some (.ref 1), some (.int x1), some (.int x2)], [(.int x1), (.ref 18)])) (h' := (107, I, J, mm_rf 19 sp rr w nw)) 1 rfl ?_
    obtain ⟨g465, hg465⟩ : ∃ z, fX7_isBoard x1 I 19 = z := ⟨_, rfl⟩
    try rw [hg465] at e
    refine mm_T.call (t := 101) (as := [(.ref 18), (.int x1)]) (f' := (8, [some (.ref 1), some (.int x1), some (.int x2)], [])) rfl (tX7_isBoard (d + 3) x1 I J 19 sp rr w nw (Or.inr rfl) g465 hg465) (fun v h hq => ?_)
    obtain ⟨rfl, rfl⟩ := hq
    refine mm_T.br (c := g465 = 0) (a := ((27, [some (.ref 1), some (.int x1), some (.int x2)], []), (107, I, J, mm_rf 19 sp rr w nw))) (b := ((11, [some (.ref 1), some (.int x1), some (.int x2)], []), (107, I, J, mm_rf 19 sp rr w nw))) rfl (fun h2378 => ?_) (fun h2378 => ?_)
    · rw [if_pos h2378] at e
      refine mm_T.seg (f' := (28, [some (.ref 1), some (.int x1), some (.int x2)], [(.int (-1))])) (h' := (107, I, J, mm_rf 19 sp rr w nw)) 1 rfl ?_
      cases e
      exact mm_T.ret rfl ⟨rfl, rfl⟩
    · rw [if_neg h2378] at e
      refine mm_T.seg (f' := (15, [some (.ref 1), some (.int x1), some (.int x2)], [(.ref 18)])) (h' := (107, I, J, mm_rf 19 sp rr w nw)) 2 rfl ?_
      refine mm_T.seg (f' := (16, [some (.ref 1), some (.int x1), some (.int x2)], [(.int x2), (.ref 18)])) (h' := (107, I, J, mm_rf 19 sp rr w nw)) 1 rfl ?_
      obtain ⟨g466, hg466⟩ : ∃ z, fX7_isBoard x2 I 19 = z := ⟨_, rfl⟩
      try rw [hg466] at e
      refine mm_T.call (t := 101) (as := [(.ref 18), (.int x2)]) (f' := (19, [some (.ref 1), some (.int x1), some (.int x2)], [])) rfl (tX7_isBoard (d + 3) x2 I J 19 sp rr w nw (Or.inr rfl) g466 hg466) (fun v h hq => ?_)
      obtain ⟨rfl, rfl⟩ := hq
      refine mm_T.br (c := g466 = 0) (a := ((27, [some (.ref 1), some (.int x1), some (.int x2)], []), (107, I, J, mm_rf 19 sp rr w nw))) (b := ((22, [some (.ref 1), some (.int x1), some (.int x2)], []), (107, I, J, mm_rf 19 sp rr w nw))) rfl (fun h2379 => ?_) (fun h2379 => ?_)
      · rw [if_pos h2379] at e
        refine mm_T.seg (f' := (28, [some (.ref 1), some (.int x1), some (.int x2)], [(.int (-1))])) (h' := (107, I, J, mm_rf 19 sp rr w nw)) 1 rfl ?_
        cases e
        exact mm_T.ret rfl ⟨rfl, rfl⟩
      · rw [if_neg h2379] at e
        refine mm_T.seg (f' := (24, [some (.ref 1), some (.int x1), some (.int x2)], [(.int x2), (.int x1)])) (h' := (107, I, J, mm_rf 19 sp rr w nw)) 2 rfl ?_
        refine mm_T.br (c := x1 = x2) (a := ((27, [some (.ref 1), some (.int x1), some (.int x2)], []), (107, I, J, mm_rf 19 sp rr w nw))) (b := ((29, [some (.ref 1), some (.int x1), some (.int x2)], []), (107, I, J, mm_rf 19 sp rr w nw))) rfl (fun h2380 => ?_) (fun h2380 => ?_)
        · rw [if_pos h2380] at e
          refine mm_T.seg (f' := (28, [some (.ref 1), some (.int x1), some (.int x2)], [(.int (-1))])) (h' := (107, I, J, mm_rf 19 sp rr w nw)) 1 rfl ?_
          cases e
          exact mm_T.ret rfl ⟨rfl, rfl⟩
        · rw [if_neg h2380] at e
          refine mm_T.seg (f' := (33, [some (.ref 1), some (.int x1), some (.int x2)], [(.ref 37)])) (h' := (107, I, J, mm_rf 19 sp rr w nw)) 2 rfl ?_
          refine mm_T.seg (f' := (35, [some (.ref 1), some (.int x1), some (.int x2)], [(.int x2), (.int x1), (.ref 37)])) (h' := (107, I, J, mm_rf 19 sp rr w nw)) 2 rfl ?_
          obtain ⟨o2381, eo2381, e⟩ := mm_bind e
          refine mm_T.call (t := 94) (as := [(.ref 37), (.int x1), (.int x2)]) (f' := (38, [some (.ref 1), some (.int x1), some (.int x2)], [])) rfl (tX6_strokesToMeet (d + 0) n x1 x2 I J 19 sp rr w nw (Or.inr rfl) o2381 eo2381) (fun v h hq => ?_)
          obtain ⟨rfl, rfl⟩ := hq
          cases e
          exact mm_T.ret rfl ⟨rfl, rfl⟩
set_option maxRecDepth 100000 in
set_option maxHeartbeats 4000000 in
theorem tlX3_addAll_53_L2 (d : Nat) (Q : Option Value → mm_H → Prop) : ∀ (n : Nat) (y2 : Int32) (y3 : Int32) (I : Nat → Nat → Int32) (J : Nat → Nat → Int64) (rv sp rr w nw : Nat), ∀ (out : (Nat → Nat → Int32)), fX3_addAll_53_L2 n y2 y3 I = some out → mm_T none (d + 1) 25 (26, [none, none, none, none], []) (107, out, J, mm_rf rv sp rr w nw) Q → mm_T none (d + 1) 25 (2, [some (.ref 35), some (.ref 53), some (.int y2), some (.int y3)], []) (107, I, J, mm_rf rv sp rr w nw) Q := by
  intro n
  induction n with
  | zero =>
    intro y2 y3 I J rv sp rr w nw out e k
    rw [fX3_addAll_53_L2] at e; cases e
  | succ n ih =>
    intro y2 y3 I J rv sp rr w nw out e k
    rw [fX3_addAll_53_L2] at e
    refine mm_T.seg (f' := (4, [some (.ref 35), some (.ref 53), some (.int y2), some (.int y3)], [(.int y2), (.int y3)])) (h' := (107, I, J, mm_rf rv sp rr w nw)) 2 rfl ?_
    refine mm_T.br (c := y3 < y2) (a := ((7, [some (.ref 35), some (.ref 53), some (.int y2), some (.int y3)], []), (107, I, J, mm_rf rv sp rr w nw))) (b := ((26, [some (.ref 35), some (.ref 53), some (.int y2), some (.int y3)], []), (107, I, J, mm_rf rv sp rr w nw))) rfl (fun h2385 => ?_) (fun h2385 => ?_)
    · rw [if_pos h2385] at e
      refine mm_T.seg (f' := (10, [some (.ref 35), some (.ref 53), some (.int y2), some (.int y3)], [(.int 4), (.int y3)])) (h' := (107, I, J, mm_rf rv sp rr w nw)) 3 rfl ?_
      refine mm_T.br (c := y3 < 4) (a := ((13, [some (.ref 35), some (.ref 53), some (.int y2), some (.int y3)], []), (107, I, J, mm_rf rv sp rr w nw))) (b := ((26, [some (.ref 35), some (.ref 53), some (.int y2), some (.int y3)], []), (107, I, J, mm_rf rv sp rr w nw))) rfl (fun h2386 => ?_) (fun h2386 => ?_)
      · rw [if_pos h2386] at e
        refine mm_T.seg (f' := (16, [some (.ref 35), some (.ref 53), some (.int y2), some (.int y3)], [(.int y3), (.ref 53), (.ref 35)])) (h' := (107, I, J, mm_rf rv sp rr w nw)) 3 rfl ?_
        by_cases h2387 : y3 < 0 ∨ 4 ≤ y3.toNatClampNeg
        · rw [if_pos h2387] at e; cases e
        rw [if_neg h2387] at e
        refine mm_T.guard (y := ((17, [some (.ref 35), some (.ref 53), some (.int y2), some (.int y3)], [(.int (I 53 y3.toNatClampNeg)), (.ref 35)]), (107, I, J, mm_rf rv sp rr w nw))) rfl h2387 ?_
        obtain ⟨o2388, eo2388, e⟩ := mm_bind e
        refine mm_T.call (t := 24) (as := [(.ref 35), (.int (I 53 y3.toNatClampNeg))]) (f' := (20, [some (.ref 35), some (.ref 53), some (.int y2), some (.int y3)], [])) rfl (tX3_add (d + 0) (I 53 y3.toNatClampNeg) I J rv sp rr w nw o2388 eo2388) (fun v h hq => ?_)
        obtain ⟨rfl, rfl⟩ := hq
        refine mm_T.seg (f' := (2, [some (.ref 35), some (.ref 53), some (.int y2), some (.int (y3 + 1))], [])) (h' := (107, o2388, J, mm_rf rv sp rr w nw)) 2 rfl ?_
        refine mm_T.mask [true, true, true, true] ?_
        exact ih y2 (y3 + 1) o2388 J rv sp rr w nw out e k
      · rw [if_neg h2386] at e
        cases e
        refine mm_T.mask [false, false, false, false] ?_
        exact k
    · rw [if_neg h2385] at e
      cases e
      refine mm_T.mask [false, false, false, false] ?_
      exact k
set_option maxRecDepth 100000 in
set_option maxHeartbeats 4000000 in
theorem tX3_addAll_53 (d n : Nat) (x2 : Int32) (I : Nat → Nat → Int32) (J : Nat → Nat → Int64) (rv sp rr w nw : Nat) (out : (Nat → Nat → Int32)) (e : fX3_addAll_53 n x2 I = some out) : mm_T none (d + 1) 25 (mm_ent 25 [(.ref 35), (.ref 53), (.int x2)]) (107, I, J, mm_rf rv sp rr w nw) (fun v h => v = none ∧ h = (107, out, J, mm_rf rv sp rr w nw)) := by
  unfold fX3_addAll_53 at e
  refine mm_T.seg (f' := (2, [some (.ref 35), some (.ref 53), some (.int x2), some (.int 0)], [])) (h' := (107, I, J, mm_rf rv sp rr w nw)) 2 rfl ?_
  refine mm_T.mask [true, true, true, true] ?_
  obtain ⟨o2389, eo2389, e⟩ := mm_bind e
  refine tlX3_addAll_53_L2 d _ n x2 0 I J rv sp rr w nw o2389 eo2389 ?_
  cases e
  exact mm_T.ret rfl ⟨rfl, rfl⟩
set_option maxRecDepth 100000 in
set_option maxHeartbeats 4000000 in
theorem tX11_mooring (d n : Nat) (x1 : Int32) (I : Nat → Nat → Int32) (J : Nat → Nat → Int64) (rv sp rr w nw : Nat) (hrv : rv = 3 ∨ rv = 19) (out : Int32 × (Nat → Nat → Int32)) (e : fX11_mooring n x1 I rv = some out) : mm_T none (d + 20) 184 (mm_ent 184 [(.ref 1), (.int x1)]) (107, I, J, mm_rf rv sp rr w nw) (fun v h => v = some (.int out.1) ∧ h = (107, out.2, J, mm_rf rv sp rr w nw)) := by
  rcases hrv with rfl | rfl
  · unfold fX11_mooring at e
    refine mm_T.seg (f' := (1, [some (.ref 1), some (.int x1)], [(.int x1)])) (h' := (107, I, J, mm_rf 3 sp rr w nw)) 1 rfl ?_
    refine mm_T.br (c := x1 < 0) (a := ((9, [some (.ref 1), some (.int x1)], []), (107, I, J, mm_rf 3 sp rr w nw))) (b := ((4, [some (.ref 1), some (.int x1)], []), (107, I, J, mm_rf 3 sp rr w nw))) rfl (fun h2382 => ?_) (fun h2382 => ?_)
    · rw [if_pos h2382] at e
      refine mm_T.seg (f' := (10, [some (.ref 1), some (.int x1)], [(.int (-1))])) (h' := (107, I, J, mm_rf 3 sp rr w nw)) 1 rfl ?_
      cases e
      exact mm_T.ret rfl ⟨rfl, rfl⟩
    · rw [if_neg h2382] at e
      refine mm_T.seg (f' := (6, [some (.ref 1), some (.int x1)], [(.int 1), (.int x1)])) (h' := (107, I, J, mm_rf 3 sp rr w nw)) 2 rfl ?_
      refine mm_T.br (c := 1 < x1) (a := ((9, [some (.ref 1), some (.int x1)], []), (107, I, J, mm_rf 3 sp rr w nw))) (b := ((11, [some (.ref 1), some (.int x1)], []), (107, I, J, mm_rf 3 sp rr w nw))) rfl (fun h2383 => ?_) (fun h2383 => ?_)
      · rw [if_pos h2383] at e
        refine mm_T.seg (f' := (10, [some (.ref 1), some (.int x1)], [(.int (-1))])) (h' := (107, I, J, mm_rf 3 sp rr w nw)) 1 rfl ?_
        cases e
        exact mm_T.ret rfl ⟨rfl, rfl⟩
      · rw [if_neg h2383] at e
        refine mm_T.seg (f' := (15, [some (.ref 1), some (.int x1)], [(.ref 50)])) (h' := (107, I, J, mm_rf 3 sp rr w nw)) 2 rfl ?_
        obtain ⟨o2384, eo2384, e⟩ := mm_bind e
        refine mm_T.call (t := 7) (as := [(.ref 50)]) (f' := (18, [some (.ref 1), some (.int x1)], [])) rfl (tX1_findMooring (d + 0) n I J 3 sp rr w nw (Or.inl rfl) o2384 eo2384) (fun v h hq => ?_)
        obtain ⟨rfl, rfl⟩ := hq
        refine mm_T.seg (f' := (22, [some (.ref 1), some (.int x1)], [(.ref 35)])) (h' := (107, o2384, J, mm_rf 3 sp rr w nw)) 2 rfl ?_
        obtain ⟨g467, hg467⟩ : ∃ z, fX3_clear o2384 = z := ⟨_, rfl⟩
        try rw [hg467] at e
        refine mm_T.call (t := 23) (as := [(.ref 35)]) (f' := (25, [some (.ref 1), some (.int x1)], [])) rfl (tX3_clear (d + 19) o2384 J 3 sp rr w nw g467 hg467) (fun v h hq => ?_)
        obtain ⟨rfl, rfl⟩ := hq
        refine mm_T.seg (f' := (29, [some (.ref 1), some (.int x1)], [(.ref 35)])) (h' := (107, g467, J, mm_rf 3 sp rr w nw)) 2 rfl ?_
        refine mm_T.seg (f' := (33, [some (.ref 1), some (.int x1)], [(.ref 50), (.ref 35)])) (h' := (107, g467, J, mm_rf 3 sp rr w nw)) 2 rfl ?_
        refine mm_T.seg (f' := (40, [some (.ref 1), some (.int x1)], [(.ref 18), (.ref 53), (.ref 35)])) (h' := (107, g467, J, mm_rf 3 sp rr w nw)) 3 rfl ?_
        refine mm_T.seg (f' := (46, [some (.ref 1), some (.int x1)], [(.int (g467 3 4)), (.ref 53), (.ref 35)])) (h' := (107, g467, J, mm_rf 3 sp rr w nw)) 2 rfl ?_
        obtain ⟨o2390, eo2390, e⟩ := mm_bind e
        refine mm_T.call (t := 25) (as := [(.ref 35), (.ref 53), (.int (g467 3 4))]) (f' := (49, [some (.ref 1), some (.int x1)], [])) rfl (tX3_addAll_53 (d + 18) n (g467 3 4) g467 J 3 sp rr w nw o2390 eo2390) (fun v h hq => ?_)
        obtain ⟨rfl, rfl⟩ := hq
        refine mm_T.seg (f' := (50, [some (.ref 1), some (.int x1)], [(.int x1)])) (h' := (107, o2390, J, mm_rf 3 sp rr w nw)) 1 rfl ?_
        refine mm_T.br (c := x1 = 0) (a := ((53, [some (.ref 1), some (.int x1)], []), (107, o2390, J, mm_rf 3 sp rr w nw))) (b := ((63, [some (.ref 1), some (.int x1)], []), (107, o2390, J, mm_rf 3 sp rr w nw))) rfl (fun h2391 => ?_) (fun h2391 => ?_)
        · rw [if_pos h2391] at e
          refine mm_T.seg (f' := (57, [some (.ref 1), some (.int x1)], [(.ref 50)])) (h' := (107, o2390, J, mm_rf 3 sp rr w nw)) 2 rfl ?_
          refine mm_T.seg (f' := (70, [some (.ref 1), some (.int x1)], [(.int (o2390 50 5))])) (h' := (107, o2390, J, mm_rf 3 sp rr w nw)) 2 rfl ?_
          cases e
          exact mm_T.ret rfl ⟨rfl, rfl⟩
        · rw [if_neg h2391] at e
          refine mm_T.seg (f' := (67, [some (.ref 1), some (.int x1)], [(.ref 50)])) (h' := (107, o2390, J, mm_rf 3 sp rr w nw)) 2 rfl ?_
          refine mm_T.seg (f' := (70, [some (.ref 1), some (.int x1)], [(.int (o2390 50 6))])) (h' := (107, o2390, J, mm_rf 3 sp rr w nw)) 1 rfl ?_
          cases e
          exact mm_T.ret rfl ⟨rfl, rfl⟩
  · unfold fX11_mooring at e
    refine mm_T.seg (f' := (1, [some (.ref 1), some (.int x1)], [(.int x1)])) (h' := (107, I, J, mm_rf 19 sp rr w nw)) 1 rfl ?_
    refine mm_T.br (c := x1 < 0) (a := ((9, [some (.ref 1), some (.int x1)], []), (107, I, J, mm_rf 19 sp rr w nw))) (b := ((4, [some (.ref 1), some (.int x1)], []), (107, I, J, mm_rf 19 sp rr w nw))) rfl (fun h2382 => ?_) (fun h2382 => ?_)
    · rw [if_pos h2382] at e
      refine mm_T.seg (f' := (10, [some (.ref 1), some (.int x1)], [(.int (-1))])) (h' := (107, I, J, mm_rf 19 sp rr w nw)) 1 rfl ?_
      cases e
      exact mm_T.ret rfl ⟨rfl, rfl⟩
    · rw [if_neg h2382] at e
      refine mm_T.seg (f' := (6, [some (.ref 1), some (.int x1)], [(.int 1), (.int x1)])) (h' := (107, I, J, mm_rf 19 sp rr w nw)) 2 rfl ?_
      refine mm_T.br (c := 1 < x1) (a := ((9, [some (.ref 1), some (.int x1)], []), (107, I, J, mm_rf 19 sp rr w nw))) (b := ((11, [some (.ref 1), some (.int x1)], []), (107, I, J, mm_rf 19 sp rr w nw))) rfl (fun h2383 => ?_) (fun h2383 => ?_)
      · rw [if_pos h2383] at e
        refine mm_T.seg (f' := (10, [some (.ref 1), some (.int x1)], [(.int (-1))])) (h' := (107, I, J, mm_rf 19 sp rr w nw)) 1 rfl ?_
        cases e
        exact mm_T.ret rfl ⟨rfl, rfl⟩
      · rw [if_neg h2383] at e
        refine mm_T.seg (f' := (15, [some (.ref 1), some (.int x1)], [(.ref 50)])) (h' := (107, I, J, mm_rf 19 sp rr w nw)) 2 rfl ?_
        obtain ⟨o2384, eo2384, e⟩ := mm_bind e
        refine mm_T.call (t := 7) (as := [(.ref 50)]) (f' := (18, [some (.ref 1), some (.int x1)], [])) rfl (tX1_findMooring (d + 0) n I J 19 sp rr w nw (Or.inr rfl) o2384 eo2384) (fun v h hq => ?_)
        obtain ⟨rfl, rfl⟩ := hq
        refine mm_T.seg (f' := (22, [some (.ref 1), some (.int x1)], [(.ref 35)])) (h' := (107, o2384, J, mm_rf 19 sp rr w nw)) 2 rfl ?_
        obtain ⟨g467, hg467⟩ : ∃ z, fX3_clear o2384 = z := ⟨_, rfl⟩
        try rw [hg467] at e
        refine mm_T.call (t := 23) (as := [(.ref 35)]) (f' := (25, [some (.ref 1), some (.int x1)], [])) rfl (tX3_clear (d + 19) o2384 J 19 sp rr w nw g467 hg467) (fun v h hq => ?_)
        obtain ⟨rfl, rfl⟩ := hq
        refine mm_T.seg (f' := (29, [some (.ref 1), some (.int x1)], [(.ref 35)])) (h' := (107, g467, J, mm_rf 19 sp rr w nw)) 2 rfl ?_
        refine mm_T.seg (f' := (33, [some (.ref 1), some (.int x1)], [(.ref 50), (.ref 35)])) (h' := (107, g467, J, mm_rf 19 sp rr w nw)) 2 rfl ?_
        refine mm_T.seg (f' := (40, [some (.ref 1), some (.int x1)], [(.ref 18), (.ref 53), (.ref 35)])) (h' := (107, g467, J, mm_rf 19 sp rr w nw)) 3 rfl ?_
        refine mm_T.seg (f' := (46, [some (.ref 1), some (.int x1)], [(.int (g467 19 4)), (.ref 53), (.ref 35)])) (h' := (107, g467, J, mm_rf 19 sp rr w nw)) 2 rfl ?_
        obtain ⟨o2390, eo2390, e⟩ := mm_bind e
        refine mm_T.call (t := 25) (as := [(.ref 35), (.ref 53), (.int (g467 19 4))]) (f' := (49, [some (.ref 1), some (.int x1)], [])) rfl (tX3_addAll_53 (d + 18) n (g467 19 4) g467 J 19 sp rr w nw o2390 eo2390) (fun v h hq => ?_)
        obtain ⟨rfl, rfl⟩ := hq
        refine mm_T.seg (f' := (50, [some (.ref 1), some (.int x1)], [(.int x1)])) (h' := (107, o2390, J, mm_rf 19 sp rr w nw)) 1 rfl ?_
        refine mm_T.br (c := x1 = 0) (a := ((53, [some (.ref 1), some (.int x1)], []), (107, o2390, J, mm_rf 19 sp rr w nw))) (b := ((63, [some (.ref 1), some (.int x1)], []), (107, o2390, J, mm_rf 19 sp rr w nw))) rfl (fun h2391 => ?_) (fun h2391 => ?_)
        · rw [if_pos h2391] at e
          refine mm_T.seg (f' := (57, [some (.ref 1), some (.int x1)], [(.ref 50)])) (h' := (107, o2390, J, mm_rf 19 sp rr w nw)) 2 rfl ?_
          refine mm_T.seg (f' := (70, [some (.ref 1), some (.int x1)], [(.int (o2390 50 5))])) (h' := (107, o2390, J, mm_rf 19 sp rr w nw)) 2 rfl ?_
          cases e
          exact mm_T.ret rfl ⟨rfl, rfl⟩
        · rw [if_neg h2391] at e
          refine mm_T.seg (f' := (67, [some (.ref 1), some (.int x1)], [(.ref 50)])) (h' := (107, o2390, J, mm_rf 19 sp rr w nw)) 2 rfl ?_
          refine mm_T.seg (f' := (70, [some (.ref 1), some (.int x1)], [(.int (o2390 50 6))])) (h' := (107, o2390, J, mm_rf 19 sp rr w nw)) 1 rfl ?_
          cases e
          exact mm_T.ret rfl ⟨rfl, rfl⟩
set_option maxRecDepth 100000 in
set_option maxHeartbeats 4000000 in
theorem tbX11_guests_J34 (d : Nat) (I : Nat → Nat → Int32) (J : Nat → Nat → Int64) (rv sp rr w nw : Nat) (out : Int32 × (Nat → Nat → Int32)) (e : fX11_guests_J34 I = some out) : mm_T none (d + 5) 185 (34, [none, none, none, none], []) (107, I, J, mm_rf rv sp rr w nw) (fun v h => v = some (.int out.1) ∧ h = (107, out.2, J, mm_rf rv sp rr w nw)) := by
  unfold fX11_guests_J34 at e
  refine mm_T.seg (f' := (35, [none, none, none, none], [(.int (-1))])) (h' := (107, I, J, mm_rf rv sp rr w nw)) 1 rfl ?_
  cases e
  exact mm_T.ret rfl ⟨rfl, rfl⟩
set_option maxRecDepth 100000 in
set_option maxHeartbeats 4000000 in
theorem tX11_guests (d n : Nat) (x1 : Int32) (x2 : Int32) (I : Nat → Nat → Int32) (J : Nat → Nat → Int64) (rv sp rr w nw : Nat) (hrv : rv = 3 ∨ rv = 19) (out : Int32 × (Nat → Nat → Int32)) (e : fX11_guests n x1 x2 I rv = some out) : mm_T none (d + 5) 185 (mm_ent 185 [(.ref 1), (.int x1), (.int x2)]) (107, I, J, mm_rf rv sp rr w nw) (fun v h => v = some (.int out.1) ∧ h = (107, out.2, J, mm_rf rv sp rr w nw)) := by
  rcases hrv with rfl | rfl
  · unfold fX11_guests at e
    refine mm_T.seg (f' := (4, [some (.ref 1), some (.int x1), some (.int x2), none], [(.ref 35)])) (h' := (107, I, J, mm_rf 3 sp rr w nw)) 2 rfl ?_
    obtain ⟨g468, hg468⟩ : ∃ z, fX3_clear I = z := ⟨_, rfl⟩
    try rw [hg468] at e
    refine mm_T.call (t := 23) (as := [(.ref 35)]) (f' := (7, [some (.ref 1), some (.int x1), some (.int x2), none], [])) rfl (tX3_clear (d + 4) I J 3 sp rr w nw g468 hg468) (fun v h hq => ?_)
    obtain ⟨rfl, rfl⟩ := hq
    refine mm_T.seg (f' := (11, [some (.ref 1), some (.int x1), some (.int x2), none], [(.ref 18)])) (h' := (107, g468, J, mm_rf 3 sp rr w nw)) 2 rfl ?_
    refine mm_T.seg (f' := (12, [some (.ref 1), some (.int x1), some (.int x2), none], [(.int x1), (.ref 18)])) (h' := (107, g468, J, mm_rf 3 sp rr w nw)) 1 rfl ?_
    obtain ⟨g469, hg469⟩ : ∃ z, fX7_isBoard x1 g468 3 = z := ⟨_, rfl⟩
    try rw [hg469] at e
    refine mm_T.call (t := 101) (as := [(.ref 18), (.int x1)]) (f' := (15, [some (.ref 1), some (.int x1), some (.int x2), none], [])) rfl (tX7_isBoard (d + 4) x1 g468 J 3 sp rr w nw (Or.inl rfl) g469 hg469) (fun v h hq => ?_)
    obtain ⟨rfl, rfl⟩ := hq
    refine mm_T.br (c := g469 = 0) (a := ((34, [some (.ref 1), some (.int x1), some (.int x2), none], []), (107, g468, J, mm_rf 3 sp rr w nw))) (b := ((18, [some (.ref 1), some (.int x1), some (.int x2), none], []), (107, g468, J, mm_rf 3 sp rr w nw))) rfl (fun h2392 => ?_) (fun h2392 => ?_)
    · rw [if_pos h2392] at e
      refine mm_T.mask [false, false, false, false] ?_
      exact tbX11_guests_J34 d g468 J 3 sp rr w nw out e
    · rw [if_neg h2392] at e
      refine mm_T.seg (f' := (22, [some (.ref 1), some (.int x1), some (.int x2), none], [(.ref 18)])) (h' := (107, g468, J, mm_rf 3 sp rr w nw)) 2 rfl ?_
      refine mm_T.seg (f' := (23, [some (.ref 1), some (.int x1), some (.int x2), none], [(.int x2), (.ref 18)])) (h' := (107, g468, J, mm_rf 3 sp rr w nw)) 1 rfl ?_
      obtain ⟨g470, hg470⟩ : ∃ z, fX7_isBoard x2 g468 3 = z := ⟨_, rfl⟩
      try rw [hg470] at e
      refine mm_T.call (t := 101) (as := [(.ref 18), (.int x2)]) (f' := (26, [some (.ref 1), some (.int x1), some (.int x2), none], [])) rfl (tX7_isBoard (d + 4) x2 g468 J 3 sp rr w nw (Or.inl rfl) g470 hg470) (fun v h hq => ?_)
      obtain ⟨rfl, rfl⟩ := hq
      refine mm_T.br (c := g470 = 0) (a := ((34, [some (.ref 1), some (.int x1), some (.int x2), none], []), (107, g468, J, mm_rf 3 sp rr w nw))) (b := ((29, [some (.ref 1), some (.int x1), some (.int x2), none], []), (107, g468, J, mm_rf 3 sp rr w nw))) rfl (fun h2393 => ?_) (fun h2393 => ?_)
      · rw [if_pos h2393] at e
        refine mm_T.mask [false, false, false, false] ?_
        exact tbX11_guests_J34 d g468 J 3 sp rr w nw out e
      · rw [if_neg h2393] at e
        refine mm_T.seg (f' := (31, [some (.ref 1), some (.int x1), some (.int x2), none], [(.int x2), (.int x1)])) (h' := (107, g468, J, mm_rf 3 sp rr w nw)) 2 rfl ?_
        refine mm_T.br (c := x1 = x2) (a := ((34, [some (.ref 1), some (.int x1), some (.int x2), none], []), (107, g468, J, mm_rf 3 sp rr w nw))) (b := ((36, [some (.ref 1), some (.int x1), some (.int x2), none], []), (107, g468, J, mm_rf 3 sp rr w nw))) rfl (fun h2394 => ?_) (fun h2394 => ?_)
        · rw [if_pos h2394] at e
          refine mm_T.mask [false, false, false, false] ?_
          exact tbX11_guests_J34 d g468 J 3 sp rr w nw out e
        · rw [if_neg h2394] at e
          refine mm_T.seg (f' := (40, [some (.ref 1), some (.int x1), some (.int x2), none], [(.ref 50)])) (h' := (107, g468, J, mm_rf 3 sp rr w nw)) 2 rfl ?_
          refine mm_T.seg (f' := (42, [some (.ref 1), some (.int x1), some (.int x2), none], [(.int x2), (.int x1), (.ref 50)])) (h' := (107, g468, J, mm_rf 3 sp rr w nw)) 2 rfl ?_
          obtain ⟨o2395, eo2395, e⟩ := mm_bind e
          refine mm_T.call (t := 9) (as := [(.ref 50), (.int x1), (.int x2)]) (f' := (45, [some (.ref 1), some (.int x1), some (.int x2), none], [])) rfl (tX1_countRests (d + 0) n x1 x2 g468 J 3 sp rr w nw (Or.inl rfl) o2395 eo2395) (fun v h hq => ?_)
          obtain ⟨rfl, rfl⟩ := hq
          refine mm_T.seg (f' := (47, [some (.ref 1), some (.int x1), some (.int x2), some (.int o2395.1)], [(.int o2395.1)])) (h' := (107, o2395.2, J, mm_rf 3 sp rr w nw)) 2 rfl ?_
          refine mm_T.br (c := 0 < o2395.1) (a := ((50, [some (.ref 1), some (.int x1), some (.int x2), some (.int o2395.1)], []), (107, o2395.2, J, mm_rf 3 sp rr w nw))) (b := ((78, [some (.ref 1), some (.int x1), some (.int x2), some (.int o2395.1)], []), (107, o2395.2, J, mm_rf 3 sp rr w nw))) rfl (fun h2396 => ?_) (fun h2396 => ?_)
          · rw [if_pos h2396] at e
            refine mm_T.seg (f' := (54, [some (.ref 1), some (.int x1), some (.int x2), some (.int o2395.1)], [(.ref 35)])) (h' := (107, o2395.2, J, mm_rf 3 sp rr w nw)) 2 rfl ?_
            refine mm_T.seg (f' := (58, [some (.ref 1), some (.int x1), some (.int x2), some (.int o2395.1)], [(.ref 50), (.ref 35)])) (h' := (107, o2395.2, J, mm_rf 3 sp rr w nw)) 2 rfl ?_
            refine mm_T.seg (f' := (61, [some (.ref 1), some (.int x1), some (.int x2), some (.int o2395.1)], [(.int (o2395.2 50 7)), (.ref 35)])) (h' := (107, o2395.2, J, mm_rf 3 sp rr w nw)) 1 rfl ?_
            obtain ⟨o2397, eo2397, e⟩ := mm_bind e
            refine mm_T.call (t := 24) (as := [(.ref 35), (.int (o2395.2 50 7))]) (f' := (64, [some (.ref 1), some (.int x1), some (.int x2), some (.int o2395.1)], [])) rfl (tX3_add (d + 4) (o2395.2 50 7) o2395.2 J 3 sp rr w nw o2397 eo2397) (fun v h hq => ?_)
            obtain ⟨rfl, rfl⟩ := hq
            refine mm_T.seg (f' := (68, [some (.ref 1), some (.int x1), some (.int x2), some (.int o2395.1)], [(.ref 35)])) (h' := (107, o2397, J, mm_rf 3 sp rr w nw)) 2 rfl ?_
            refine mm_T.seg (f' := (72, [some (.ref 1), some (.int x1), some (.int x2), some (.int o2395.1)], [(.ref 50), (.ref 35)])) (h' := (107, o2397, J, mm_rf 3 sp rr w nw)) 2 rfl ?_
            refine mm_T.seg (f' := (75, [some (.ref 1), some (.int x1), some (.int x2), some (.int o2395.1)], [(.int (o2397 50 8)), (.ref 35)])) (h' := (107, o2397, J, mm_rf 3 sp rr w nw)) 1 rfl ?_
            obtain ⟨o2398, eo2398, e⟩ := mm_bind e
            refine mm_T.call (t := 24) (as := [(.ref 35), (.int (o2397 50 8))]) (f' := (78, [some (.ref 1), some (.int x1), some (.int x2), some (.int o2395.1)], [])) rfl (tX3_add (d + 4) (o2397 50 8) o2397 J 3 sp rr w nw o2398 eo2398) (fun v h hq => ?_)
            obtain ⟨rfl, rfl⟩ := hq
            refine mm_T.seg (f' := (79, [some (.ref 1), some (.int x1), some (.int x2), some (.int o2395.1)], [(.int o2395.1)])) (h' := (107, o2398, J, mm_rf 3 sp rr w nw)) 1 rfl ?_
            cases e
            exact mm_T.ret rfl ⟨rfl, rfl⟩
          · rw [if_neg h2396] at e
            refine mm_T.seg (f' := (79, [some (.ref 1), some (.int x1), some (.int x2), some (.int o2395.1)], [(.int o2395.1)])) (h' := (107, o2395.2, J, mm_rf 3 sp rr w nw)) 1 rfl ?_
            cases e
            exact mm_T.ret rfl ⟨rfl, rfl⟩
  · unfold fX11_guests at e
    refine mm_T.seg (f' := (4, [some (.ref 1), some (.int x1), some (.int x2), none], [(.ref 35)])) (h' := (107, I, J, mm_rf 19 sp rr w nw)) 2 rfl ?_
    obtain ⟨g468, hg468⟩ : ∃ z, fX3_clear I = z := ⟨_, rfl⟩
    try rw [hg468] at e
    refine mm_T.call (t := 23) (as := [(.ref 35)]) (f' := (7, [some (.ref 1), some (.int x1), some (.int x2), none], [])) rfl (tX3_clear (d + 4) I J 19 sp rr w nw g468 hg468) (fun v h hq => ?_)
    obtain ⟨rfl, rfl⟩ := hq
    refine mm_T.seg (f' := (11, [some (.ref 1), some (.int x1), some (.int x2), none], [(.ref 18)])) (h' := (107, g468, J, mm_rf 19 sp rr w nw)) 2 rfl ?_
    refine mm_T.seg (f' := (12, [some (.ref 1), some (.int x1), some (.int x2), none], [(.int x1), (.ref 18)])) (h' := (107, g468, J, mm_rf 19 sp rr w nw)) 1 rfl ?_
    obtain ⟨g469, hg469⟩ : ∃ z, fX7_isBoard x1 g468 19 = z := ⟨_, rfl⟩
    try rw [hg469] at e
    refine mm_T.call (t := 101) (as := [(.ref 18), (.int x1)]) (f' := (15, [some (.ref 1), some (.int x1), some (.int x2), none], [])) rfl (tX7_isBoard (d + 4) x1 g468 J 19 sp rr w nw (Or.inr rfl) g469 hg469) (fun v h hq => ?_)
    obtain ⟨rfl, rfl⟩ := hq
    refine mm_T.br (c := g469 = 0) (a := ((34, [some (.ref 1), some (.int x1), some (.int x2), none], []), (107, g468, J, mm_rf 19 sp rr w nw))) (b := ((18, [some (.ref 1), some (.int x1), some (.int x2), none], []), (107, g468, J, mm_rf 19 sp rr w nw))) rfl (fun h2392 => ?_) (fun h2392 => ?_)
    · rw [if_pos h2392] at e
      refine mm_T.mask [false, false, false, false] ?_
      exact tbX11_guests_J34 d g468 J 19 sp rr w nw out e
    · rw [if_neg h2392] at e
      refine mm_T.seg (f' := (22, [some (.ref 1), some (.int x1), some (.int x2), none], [(.ref 18)])) (h' := (107, g468, J, mm_rf 19 sp rr w nw)) 2 rfl ?_
      refine mm_T.seg (f' := (23, [some (.ref 1), some (.int x1), some (.int x2), none], [(.int x2), (.ref 18)])) (h' := (107, g468, J, mm_rf 19 sp rr w nw)) 1 rfl ?_
      obtain ⟨g470, hg470⟩ : ∃ z, fX7_isBoard x2 g468 19 = z := ⟨_, rfl⟩
      try rw [hg470] at e
      refine mm_T.call (t := 101) (as := [(.ref 18), (.int x2)]) (f' := (26, [some (.ref 1), some (.int x1), some (.int x2), none], [])) rfl (tX7_isBoard (d + 4) x2 g468 J 19 sp rr w nw (Or.inr rfl) g470 hg470) (fun v h hq => ?_)
      obtain ⟨rfl, rfl⟩ := hq
      refine mm_T.br (c := g470 = 0) (a := ((34, [some (.ref 1), some (.int x1), some (.int x2), none], []), (107, g468, J, mm_rf 19 sp rr w nw))) (b := ((29, [some (.ref 1), some (.int x1), some (.int x2), none], []), (107, g468, J, mm_rf 19 sp rr w nw))) rfl (fun h2393 => ?_) (fun h2393 => ?_)
      · rw [if_pos h2393] at e
        refine mm_T.mask [false, false, false, false] ?_
        exact tbX11_guests_J34 d g468 J 19 sp rr w nw out e
      · rw [if_neg h2393] at e
        refine mm_T.seg (f' := (31, [some (.ref 1), some (.int x1), some (.int x2), none], [(.int x2), (.int x1)])) (h' := (107, g468, J, mm_rf 19 sp rr w nw)) 2 rfl ?_
        refine mm_T.br (c := x1 = x2) (a := ((34, [some (.ref 1), some (.int x1), some (.int x2), none], []), (107, g468, J, mm_rf 19 sp rr w nw))) (b := ((36, [some (.ref 1), some (.int x1), some (.int x2), none], []), (107, g468, J, mm_rf 19 sp rr w nw))) rfl (fun h2394 => ?_) (fun h2394 => ?_)
        · rw [if_pos h2394] at e
          refine mm_T.mask [false, false, false, false] ?_
          exact tbX11_guests_J34 d g468 J 19 sp rr w nw out e
        · rw [if_neg h2394] at e
          refine mm_T.seg (f' := (40, [some (.ref 1), some (.int x1), some (.int x2), none], [(.ref 50)])) (h' := (107, g468, J, mm_rf 19 sp rr w nw)) 2 rfl ?_
          refine mm_T.seg (f' := (42, [some (.ref 1), some (.int x1), some (.int x2), none], [(.int x2), (.int x1), (.ref 50)])) (h' := (107, g468, J, mm_rf 19 sp rr w nw)) 2 rfl ?_
          obtain ⟨o2395, eo2395, e⟩ := mm_bind e
          refine mm_T.call (t := 9) (as := [(.ref 50), (.int x1), (.int x2)]) (f' := (45, [some (.ref 1), some (.int x1), some (.int x2), none], [])) rfl (tX1_countRests (d + 0) n x1 x2 g468 J 19 sp rr w nw (Or.inr rfl) o2395 eo2395) (fun v h hq => ?_)
          obtain ⟨rfl, rfl⟩ := hq
          refine mm_T.seg (f' := (47, [some (.ref 1), some (.int x1), some (.int x2), some (.int o2395.1)], [(.int o2395.1)])) (h' := (107, o2395.2, J, mm_rf 19 sp rr w nw)) 2 rfl ?_
          refine mm_T.br (c := 0 < o2395.1) (a := ((50, [some (.ref 1), some (.int x1), some (.int x2), some (.int o2395.1)], []), (107, o2395.2, J, mm_rf 19 sp rr w nw))) (b := ((78, [some (.ref 1), some (.int x1), some (.int x2), some (.int o2395.1)], []), (107, o2395.2, J, mm_rf 19 sp rr w nw))) rfl (fun h2396 => ?_) (fun h2396 => ?_)
          · rw [if_pos h2396] at e
            refine mm_T.seg (f' := (54, [some (.ref 1), some (.int x1), some (.int x2), some (.int o2395.1)], [(.ref 35)])) (h' := (107, o2395.2, J, mm_rf 19 sp rr w nw)) 2 rfl ?_
            refine mm_T.seg (f' := (58, [some (.ref 1), some (.int x1), some (.int x2), some (.int o2395.1)], [(.ref 50), (.ref 35)])) (h' := (107, o2395.2, J, mm_rf 19 sp rr w nw)) 2 rfl ?_
            refine mm_T.seg (f' := (61, [some (.ref 1), some (.int x1), some (.int x2), some (.int o2395.1)], [(.int (o2395.2 50 7)), (.ref 35)])) (h' := (107, o2395.2, J, mm_rf 19 sp rr w nw)) 1 rfl ?_
            obtain ⟨o2397, eo2397, e⟩ := mm_bind e
            refine mm_T.call (t := 24) (as := [(.ref 35), (.int (o2395.2 50 7))]) (f' := (64, [some (.ref 1), some (.int x1), some (.int x2), some (.int o2395.1)], [])) rfl (tX3_add (d + 4) (o2395.2 50 7) o2395.2 J 19 sp rr w nw o2397 eo2397) (fun v h hq => ?_)
            obtain ⟨rfl, rfl⟩ := hq
            refine mm_T.seg (f' := (68, [some (.ref 1), some (.int x1), some (.int x2), some (.int o2395.1)], [(.ref 35)])) (h' := (107, o2397, J, mm_rf 19 sp rr w nw)) 2 rfl ?_
            refine mm_T.seg (f' := (72, [some (.ref 1), some (.int x1), some (.int x2), some (.int o2395.1)], [(.ref 50), (.ref 35)])) (h' := (107, o2397, J, mm_rf 19 sp rr w nw)) 2 rfl ?_
            refine mm_T.seg (f' := (75, [some (.ref 1), some (.int x1), some (.int x2), some (.int o2395.1)], [(.int (o2397 50 8)), (.ref 35)])) (h' := (107, o2397, J, mm_rf 19 sp rr w nw)) 1 rfl ?_
            obtain ⟨o2398, eo2398, e⟩ := mm_bind e
            refine mm_T.call (t := 24) (as := [(.ref 35), (.int (o2397 50 8))]) (f' := (78, [some (.ref 1), some (.int x1), some (.int x2), some (.int o2395.1)], [])) rfl (tX3_add (d + 4) (o2397 50 8) o2397 J 19 sp rr w nw o2398 eo2398) (fun v h hq => ?_)
            obtain ⟨rfl, rfl⟩ := hq
            refine mm_T.seg (f' := (79, [some (.ref 1), some (.int x1), some (.int x2), some (.int o2395.1)], [(.int o2395.1)])) (h' := (107, o2398, J, mm_rf 19 sp rr w nw)) 1 rfl ?_
            cases e
            exact mm_T.ret rfl ⟨rfl, rfl⟩
          · rw [if_neg h2396] at e
            refine mm_T.seg (f' := (79, [some (.ref 1), some (.int x1), some (.int x2), some (.int o2395.1)], [(.int o2395.1)])) (h' := (107, o2395.2, J, mm_rf 19 sp rr w nw)) 1 rfl ?_
            cases e
            exact mm_T.ret rfl ⟨rfl, rfl⟩
set_option maxRecDepth 100000 in
set_option maxHeartbeats 4000000 in
theorem tX11_singe (d n : Nat) (x1 : Int32) (I : Nat → Nat → Int32) (J : Nat → Nat → Int64) (rv sp rr w nw : Nat) (hrv : rv = 3 ∨ rv = 19) (out : Int32 × (Nat → Nat → Int32)) (e : fX11_singe n x1 I rv = some out) : mm_T none (d + 4) 186 (mm_ent 186 [(.ref 1), (.int x1)]) (107, I, J, mm_rf rv sp rr w nw) (fun v h => v = some (.int out.1) ∧ h = (107, out.2, J, mm_rf rv sp rr w nw)) := by
  rcases hrv with rfl | rfl
  · unfold fX11_singe at e
    refine mm_T.seg (f' := (4, [some (.ref 1), some (.int x1)], [(.ref 18)])) (h' := (107, I, J, mm_rf 3 sp rr w nw)) 2 rfl ?_
    refine mm_T.seg (f' := (5, [some (.ref 1), some (.int x1)], [(.int x1), (.ref 18)])) (h' := (107, I, J, mm_rf 3 sp rr w nw)) 1 rfl ?_
    obtain ⟨g471, hg471⟩ : ∃ z, fX7_isBoard x1 I 3 = z := ⟨_, rfl⟩
    try rw [hg471] at e
    refine mm_T.call (t := 101) (as := [(.ref 18), (.int x1)]) (f' := (8, [some (.ref 1), some (.int x1)], [])) rfl (tX7_isBoard (d + 3) x1 I J 3 sp rr w nw (Or.inl rfl) g471 hg471) (fun v h hq => ?_)
    obtain ⟨rfl, rfl⟩ := hq
    refine mm_T.br (c := g471 = 0) (a := ((22, [some (.ref 1), some (.int x1)], []), (107, I, J, mm_rf 3 sp rr w nw))) (b := ((11, [some (.ref 1), some (.int x1)], []), (107, I, J, mm_rf 3 sp rr w nw))) rfl (fun h2399 => ?_) (fun h2399 => ?_)
    · rw [if_pos h2399] at e
      refine mm_T.seg (f' := (23, [some (.ref 1), some (.int x1)], [(.int (-1))])) (h' := (107, I, J, mm_rf 3 sp rr w nw)) 1 rfl ?_
      cases e
      exact mm_T.ret rfl ⟨rfl, rfl⟩
    · rw [if_neg h2399] at e
      refine mm_T.seg (f' := (15, [some (.ref 1), some (.int x1)], [(.ref 42)])) (h' := (107, I, J, mm_rf 3 sp rr w nw)) 2 rfl ?_
      refine mm_T.seg (f' := (16, [some (.ref 1), some (.int x1)], [(.int x1), (.ref 42)])) (h' := (107, I, J, mm_rf 3 sp rr w nw)) 1 rfl ?_
      obtain ⟨o2400, eo2400, e⟩ := mm_bind e
      refine mm_T.call (t := 129) (as := [(.ref 42), (.int x1)]) (f' := (19, [some (.ref 1), some (.int x1)], [])) rfl (tX8_strokesToScorch (d + 0) n x1 I J 3 sp rr w nw (Or.inl rfl) o2400 eo2400) (fun v h hq => ?_)
      obtain ⟨rfl, rfl⟩ := hq
      refine mm_T.seg (f' := (23, [some (.ref 1), some (.int x1)], [(.int o2400.1)])) (h' := (107, o2400.2, J, mm_rf 3 sp rr w nw)) 1 rfl ?_
      cases e
      exact mm_T.ret rfl ⟨rfl, rfl⟩
  · unfold fX11_singe at e
    refine mm_T.seg (f' := (4, [some (.ref 1), some (.int x1)], [(.ref 18)])) (h' := (107, I, J, mm_rf 19 sp rr w nw)) 2 rfl ?_
    refine mm_T.seg (f' := (5, [some (.ref 1), some (.int x1)], [(.int x1), (.ref 18)])) (h' := (107, I, J, mm_rf 19 sp rr w nw)) 1 rfl ?_
    obtain ⟨g471, hg471⟩ : ∃ z, fX7_isBoard x1 I 19 = z := ⟨_, rfl⟩
    try rw [hg471] at e
    refine mm_T.call (t := 101) (as := [(.ref 18), (.int x1)]) (f' := (8, [some (.ref 1), some (.int x1)], [])) rfl (tX7_isBoard (d + 3) x1 I J 19 sp rr w nw (Or.inr rfl) g471 hg471) (fun v h hq => ?_)
    obtain ⟨rfl, rfl⟩ := hq
    refine mm_T.br (c := g471 = 0) (a := ((22, [some (.ref 1), some (.int x1)], []), (107, I, J, mm_rf 19 sp rr w nw))) (b := ((11, [some (.ref 1), some (.int x1)], []), (107, I, J, mm_rf 19 sp rr w nw))) rfl (fun h2399 => ?_) (fun h2399 => ?_)
    · rw [if_pos h2399] at e
      refine mm_T.seg (f' := (23, [some (.ref 1), some (.int x1)], [(.int (-1))])) (h' := (107, I, J, mm_rf 19 sp rr w nw)) 1 rfl ?_
      cases e
      exact mm_T.ret rfl ⟨rfl, rfl⟩
    · rw [if_neg h2399] at e
      refine mm_T.seg (f' := (15, [some (.ref 1), some (.int x1)], [(.ref 42)])) (h' := (107, I, J, mm_rf 19 sp rr w nw)) 2 rfl ?_
      refine mm_T.seg (f' := (16, [some (.ref 1), some (.int x1)], [(.int x1), (.ref 42)])) (h' := (107, I, J, mm_rf 19 sp rr w nw)) 1 rfl ?_
      obtain ⟨o2400, eo2400, e⟩ := mm_bind e
      refine mm_T.call (t := 129) (as := [(.ref 42), (.int x1)]) (f' := (19, [some (.ref 1), some (.int x1)], [])) rfl (tX8_strokesToScorch (d + 0) n x1 I J 19 sp rr w nw (Or.inr rfl) o2400 eo2400) (fun v h hq => ?_)
      obtain ⟨rfl, rfl⟩ := hq
      refine mm_T.seg (f' := (23, [some (.ref 1), some (.int x1)], [(.int o2400.1)])) (h' := (107, o2400.2, J, mm_rf 19 sp rr w nw)) 1 rfl ?_
      cases e
      exact mm_T.ret rfl ⟨rfl, rfl⟩
set_option maxRecDepth 100000 in
set_option maxHeartbeats 4000000 in
theorem tX11_over (d n : Nat) (I : Nat → Nat → Int32) (J : Nat → Nat → Int64) (rv sp rr w nw : Nat) (hrv : rv = 3 ∨ rv = 19) (out : Int32) (e : fX11_over n I rv = some out) : mm_T none (d + 3) 188 (mm_ent 188 [(.ref 1)]) (107, I, J, mm_rf rv sp rr w nw) (fun v h => v = some (.int out) ∧ h = (107, I, J, mm_rf rv sp rr w nw)) := by
  rcases hrv with rfl | rfl
  · unfold fX11_over at e
    refine mm_T.seg (f' := (4, [some (.ref 1)], [(.ref 18)])) (h' := (107, I, J, mm_rf 3 sp rr w nw)) 2 rfl ?_
    refine mm_T.seg (f' := (6, [some (.ref 1)], [(.int (-2)), (.ref 18)])) (h' := (107, I, J, mm_rf 3 sp rr w nw)) 1 rfl ?_
    obtain ⟨o2412, eo2412, e⟩ := mm_bind e
    refine mm_T.call (t := 116) (as := [(.ref 18), (.int (-2))]) (f' := (9, [some (.ref 1)], [])) rfl (tX7_loadsAt (d + 0) n (-2) I J 3 sp rr w nw (Or.inl rfl) o2412 eo2412) (fun v h hq => ?_)
    obtain ⟨rfl, rfl⟩ := hq
    cases e
    exact mm_T.ret rfl ⟨rfl, rfl⟩
  · unfold fX11_over at e
    refine mm_T.seg (f' := (4, [some (.ref 1)], [(.ref 18)])) (h' := (107, I, J, mm_rf 19 sp rr w nw)) 2 rfl ?_
    refine mm_T.seg (f' := (6, [some (.ref 1)], [(.int (-2)), (.ref 18)])) (h' := (107, I, J, mm_rf 19 sp rr w nw)) 1 rfl ?_
    obtain ⟨o2412, eo2412, e⟩ := mm_bind e
    refine mm_T.call (t := 116) (as := [(.ref 18), (.int (-2))]) (f' := (9, [some (.ref 1)], [])) rfl (tX7_loadsAt (d + 0) n (-2) I J 19 sp rr w nw (Or.inr rfl) o2412 eo2412) (fun v h hq => ?_)
    obtain ⟨rfl, rfl⟩ := hq
    cases e
    exact mm_T.ret rfl ⟨rfl, rfl⟩
set_option maxRecDepth 100000 in
set_option maxHeartbeats 4000000 in
theorem tX11_left (d n : Nat) (I : Nat → Nat → Int32) (J : Nat → Nat → Int64) (rv sp rr w nw : Nat) (hrv : rv = 3 ∨ rv = 19) (out : Int32) (e : fX11_left n I rv = some out) : mm_T none (d + 3) 189 (mm_ent 189 [(.ref 1)]) (107, I, J, mm_rf rv sp rr w nw) (fun v h => v = some (.int out) ∧ h = (107, I, J, mm_rf rv sp rr w nw)) := by
  rcases hrv with rfl | rfl
  · unfold fX11_left at e
    refine mm_T.seg (f' := (4, [some (.ref 1)], [(.ref 45)])) (h' := (107, I, J, mm_rf 3 sp rr w nw)) 2 rfl ?_
    refine mm_T.seg (f' := (8, [some (.ref 1)], [(.ref 18), (.ref 45)])) (h' := (107, I, J, mm_rf 3 sp rr w nw)) 2 rfl ?_
    obtain ⟨g476, hg476⟩ : ∃ z, fX7_allLoads I 3 = z := ⟨_, rfl⟩
    try rw [hg476] at e
    refine mm_T.call (t := 115) (as := [(.ref 18)]) (f' := (11, [some (.ref 1)], [(.ref 45)])) rfl (tX7_allLoads (d + 2) I J 3 sp rr w nw (Or.inl rfl) g476 hg476) (fun v h hq => ?_)
    obtain ⟨rfl, rfl⟩ := hq
    refine mm_T.seg (f' := (15, [some (.ref 1)], [(.ref 18), (.int g476), (.ref 45)])) (h' := (107, I, J, mm_rf 3 sp rr w nw)) 2 rfl ?_
    refine mm_T.seg (f' := (17, [some (.ref 1)], [(.int (-2)), (.ref 18), (.int g476), (.ref 45)])) (h' := (107, I, J, mm_rf 3 sp rr w nw)) 1 rfl ?_
    obtain ⟨o2413, eo2413, e⟩ := mm_bind e
    refine mm_T.call (t := 116) (as := [(.ref 18), (.int (-2))]) (f' := (20, [some (.ref 1)], [(.int g476), (.ref 45)])) rfl (tX7_loadsAt (d + 0) n (-2) I J 3 sp rr w nw (Or.inl rfl) o2413 eo2413) (fun v h hq => ?_)
    obtain ⟨rfl, rfl⟩ := hq
    refine mm_T.seg (f' := (23, [some (.ref 1)], [(.int (g476 &&& (o2413 ^^^ (-1)))), (.ref 45)])) (h' := (107, I, J, mm_rf 3 sp rr w nw)) 3 rfl ?_
    obtain ⟨o2414, eo2414, e⟩ := mm_bind e
    refine mm_T.call (t := 131) (as := [(.ref 45), (.int (g476 &&& (o2413 ^^^ (-1))))]) (f' := (26, [some (.ref 1)], [])) rfl (tX9_widthOf (d + 0) n (g476 &&& (o2413 ^^^ (-1))) I J 3 sp rr w nw (Or.inl rfl) o2414 eo2414) (fun v h hq => ?_)
    obtain ⟨rfl, rfl⟩ := hq
    cases e
    exact mm_T.ret rfl ⟨rfl, rfl⟩
  · unfold fX11_left at e
    refine mm_T.seg (f' := (4, [some (.ref 1)], [(.ref 45)])) (h' := (107, I, J, mm_rf 19 sp rr w nw)) 2 rfl ?_
    refine mm_T.seg (f' := (8, [some (.ref 1)], [(.ref 18), (.ref 45)])) (h' := (107, I, J, mm_rf 19 sp rr w nw)) 2 rfl ?_
    obtain ⟨g476, hg476⟩ : ∃ z, fX7_allLoads I 19 = z := ⟨_, rfl⟩
    try rw [hg476] at e
    refine mm_T.call (t := 115) (as := [(.ref 18)]) (f' := (11, [some (.ref 1)], [(.ref 45)])) rfl (tX7_allLoads (d + 2) I J 19 sp rr w nw (Or.inr rfl) g476 hg476) (fun v h hq => ?_)
    obtain ⟨rfl, rfl⟩ := hq
    refine mm_T.seg (f' := (15, [some (.ref 1)], [(.ref 18), (.int g476), (.ref 45)])) (h' := (107, I, J, mm_rf 19 sp rr w nw)) 2 rfl ?_
    refine mm_T.seg (f' := (17, [some (.ref 1)], [(.int (-2)), (.ref 18), (.int g476), (.ref 45)])) (h' := (107, I, J, mm_rf 19 sp rr w nw)) 1 rfl ?_
    obtain ⟨o2413, eo2413, e⟩ := mm_bind e
    refine mm_T.call (t := 116) (as := [(.ref 18), (.int (-2))]) (f' := (20, [some (.ref 1)], [(.int g476), (.ref 45)])) rfl (tX7_loadsAt (d + 0) n (-2) I J 19 sp rr w nw (Or.inr rfl) o2413 eo2413) (fun v h hq => ?_)
    obtain ⟨rfl, rfl⟩ := hq
    refine mm_T.seg (f' := (23, [some (.ref 1)], [(.int (g476 &&& (o2413 ^^^ (-1)))), (.ref 45)])) (h' := (107, I, J, mm_rf 19 sp rr w nw)) 3 rfl ?_
    obtain ⟨o2414, eo2414, e⟩ := mm_bind e
    refine mm_T.call (t := 131) (as := [(.ref 45), (.int (g476 &&& (o2413 ^^^ (-1))))]) (f' := (26, [some (.ref 1)], [])) rfl (tX9_widthOf (d + 0) n (g476 &&& (o2413 ^^^ (-1))) I J 19 sp rr w nw (Or.inr rfl) o2414 eo2414) (fun v h hq => ?_)
    obtain ⟨rfl, rfl⟩ := hq
    cases e
    exact mm_T.ret rfl ⟨rfl, rfl⟩
set_option maxRecDepth 100000 in
set_option maxHeartbeats 4000000 in
theorem tlX11_pulled_L4 (d : Nat) (Q : Option Value → mm_H → Prop) : ∀ (n : Nat) (y1 : Int32) (y2 : Int32) (I : Nat → Nat → Int32) (J : Nat → Nat → Int64) (rv sp rr w nw : Nat), (rv = 3 ∨ rv = 19) → ∀ (out : Int32), fX11_pulled_L4 n y1 y2 I rv = some out → mm_T none (d + 3) 190 (59, [none, some (.int out), none], []) (107, I, J, mm_rf rv sp rr w nw) Q → mm_T none (d + 3) 190 (4, [some (.ref 1), some (.int y1), some (.int y2)], []) (107, I, J, mm_rf rv sp rr w nw) Q := by
  intro n
  induction n with
  | zero =>
    intro y1 y2 I J rv sp rr w nw hrv out e k
    rw [fX11_pulled_L4] at e; cases e
  | succ n ih =>
    intro y1 y2 I J rv sp rr w nw hrv out e k
    rcases hrv with rfl | rfl
    · rw [fX11_pulled_L4] at e
      refine mm_T.seg (f' := (9, [some (.ref 1), some (.int y1), some (.int y2)], [(.ref 18), (.int y2)])) (h' := (107, I, J, mm_rf 3 sp rr w nw)) 3 rfl ?_
      refine mm_T.seg (f' := (15, [some (.ref 1), some (.int y1), some (.int y2)], [(.int (I 3 4)), (.int y2)])) (h' := (107, I, J, mm_rf 3 sp rr w nw)) 2 rfl ?_
      refine mm_T.br (c := y2 < (I 3 4)) (a := ((18, [some (.ref 1), some (.int y1), some (.int y2)], []), (107, I, J, mm_rf 3 sp rr w nw))) (b := ((59, [some (.ref 1), some (.int y1), some (.int y2)], []), (107, I, J, mm_rf 3 sp rr w nw))) rfl (fun h2417 => ?_) (fun h2417 => ?_)
      · rw [if_pos h2417] at e
        refine mm_T.seg (f' := (22, [some (.ref 1), some (.int y1), some (.int y2)], [(.ref 18)])) (h' := (107, I, J, mm_rf 3 sp rr w nw)) 2 rfl ?_
        refine mm_T.seg (f' := (29, [some (.ref 1), some (.int y1), some (.int y2)], [(.ref 18), (.ref 3)])) (h' := (107, I, J, mm_rf 3 sp rr w nw)) 3 rfl ?_
        refine mm_T.seg (f' := (30, [some (.ref 1), some (.int y1), some (.int y2)], [(.int y2), (.ref 18), (.ref 3)])) (h' := (107, I, J, mm_rf 3 sp rr w nw)) 1 rfl ?_
        obtain ⟨g480, hg480⟩ : ∃ z, fX7_columnOf y2 I = z := ⟨_, rfl⟩
        try rw [hg480] at e
        refine mm_T.call (t := 105) (as := [(.ref 18), (.int y2)]) (f' := (33, [some (.ref 1), some (.int y1), some (.int y2)], [(.ref 3)])) rfl (tX7_columnOf (d + 0) y2 I J 3 sp rr w nw g480 hg480) (fun v h hq => ?_)
        obtain ⟨rfl, rfl⟩ := hq
        refine mm_T.seg (f' := (37, [some (.ref 1), some (.int y1), some (.int y2)], [(.ref 18), (.int g480), (.ref 3)])) (h' := (107, I, J, mm_rf 3 sp rr w nw)) 2 rfl ?_
        refine mm_T.seg (f' := (38, [some (.ref 1), some (.int y1), some (.int y2)], [(.int y2), (.ref 18), (.int g480), (.ref 3)])) (h' := (107, I, J, mm_rf 3 sp rr w nw)) 1 rfl ?_
        obtain ⟨g481, hg481⟩ : ∃ z, fX7_rowOf y2 I = z := ⟨_, rfl⟩
        try rw [hg481] at e
        refine mm_T.call (t := 106) (as := [(.ref 18), (.int y2)]) (f' := (41, [some (.ref 1), some (.int y1), some (.int y2)], [(.int g480), (.ref 3)])) rfl (tX7_rowOf (d + 0) y2 I J 3 sp rr w nw g481 hg481) (fun v h hq => ?_)
        obtain ⟨rfl, rfl⟩ := hq
        obtain ⟨g482, hg482⟩ : ∃ z, fX5_currentAt g480 g481 3 I = z := ⟨_, rfl⟩
        try rw [hg482] at e
        refine mm_T.call (t := 68) (as := [(.ref 3), (.int g480), (.int g481)]) (f' := (44, [some (.ref 1), some (.int y1), some (.int y2)], [])) rfl (tX5_currentAt (d + 1) g480 g481 3 I J 3 sp rr w nw (Or.inl rfl) g482 hg482) (fun v h hq => ?_)
        obtain ⟨rfl, rfl⟩ := hq
        refine mm_T.br (c := 0 < g482) (a := ((47, [some (.ref 1), some (.int y1), some (.int y2)], []), (107, I, J, mm_rf 3 sp rr w nw))) (b := ((53, [some (.ref 1), some (.int y1), some (.int y2)], []), (107, I, J, mm_rf 3 sp rr w nw))) rfl (fun h2418 => ?_) (fun h2418 => ?_)
        · rw [if_pos h2418] at e
          refine mm_T.seg (f' := (4, [some (.ref 1), some (.int (y1 ||| ((1 : Int32) <<< (y2 &&& 31)))), some (.int (y2 + 1))], [])) (h' := (107, I, J, mm_rf 3 sp rr w nw)) 8 rfl ?_
          refine mm_T.mask [true, true, true] ?_
          exact ih (y1 ||| ((1 : Int32) <<< (y2 &&& 31))) (y2 + 1) I J 3 sp rr w nw (Or.inl rfl) out e k
        · rw [if_neg h2418] at e
          refine mm_T.seg (f' := (4, [some (.ref 1), some (.int y1), some (.int (y2 + 1))], [])) (h' := (107, I, J, mm_rf 3 sp rr w nw)) 2 rfl ?_
          refine mm_T.mask [true, true, true] ?_
          exact ih y1 (y2 + 1) I J 3 sp rr w nw (Or.inl rfl) out e k
      · rw [if_neg h2417] at e
        cases e
        refine mm_T.mask [false, true, false] ?_
        exact k
    · rw [fX11_pulled_L4] at e
      refine mm_T.seg (f' := (9, [some (.ref 1), some (.int y1), some (.int y2)], [(.ref 18), (.int y2)])) (h' := (107, I, J, mm_rf 19 sp rr w nw)) 3 rfl ?_
      refine mm_T.seg (f' := (15, [some (.ref 1), some (.int y1), some (.int y2)], [(.int (I 19 4)), (.int y2)])) (h' := (107, I, J, mm_rf 19 sp rr w nw)) 2 rfl ?_
      refine mm_T.br (c := y2 < (I 19 4)) (a := ((18, [some (.ref 1), some (.int y1), some (.int y2)], []), (107, I, J, mm_rf 19 sp rr w nw))) (b := ((59, [some (.ref 1), some (.int y1), some (.int y2)], []), (107, I, J, mm_rf 19 sp rr w nw))) rfl (fun h2417 => ?_) (fun h2417 => ?_)
      · rw [if_pos h2417] at e
        refine mm_T.seg (f' := (22, [some (.ref 1), some (.int y1), some (.int y2)], [(.ref 18)])) (h' := (107, I, J, mm_rf 19 sp rr w nw)) 2 rfl ?_
        refine mm_T.seg (f' := (29, [some (.ref 1), some (.int y1), some (.int y2)], [(.ref 18), (.ref 19)])) (h' := (107, I, J, mm_rf 19 sp rr w nw)) 3 rfl ?_
        refine mm_T.seg (f' := (30, [some (.ref 1), some (.int y1), some (.int y2)], [(.int y2), (.ref 18), (.ref 19)])) (h' := (107, I, J, mm_rf 19 sp rr w nw)) 1 rfl ?_
        obtain ⟨g480, hg480⟩ : ∃ z, fX7_columnOf y2 I = z := ⟨_, rfl⟩
        try rw [hg480] at e
        refine mm_T.call (t := 105) (as := [(.ref 18), (.int y2)]) (f' := (33, [some (.ref 1), some (.int y1), some (.int y2)], [(.ref 19)])) rfl (tX7_columnOf (d + 0) y2 I J 19 sp rr w nw g480 hg480) (fun v h hq => ?_)
        obtain ⟨rfl, rfl⟩ := hq
        refine mm_T.seg (f' := (37, [some (.ref 1), some (.int y1), some (.int y2)], [(.ref 18), (.int g480), (.ref 19)])) (h' := (107, I, J, mm_rf 19 sp rr w nw)) 2 rfl ?_
        refine mm_T.seg (f' := (38, [some (.ref 1), some (.int y1), some (.int y2)], [(.int y2), (.ref 18), (.int g480), (.ref 19)])) (h' := (107, I, J, mm_rf 19 sp rr w nw)) 1 rfl ?_
        obtain ⟨g481, hg481⟩ : ∃ z, fX7_rowOf y2 I = z := ⟨_, rfl⟩
        try rw [hg481] at e
        refine mm_T.call (t := 106) (as := [(.ref 18), (.int y2)]) (f' := (41, [some (.ref 1), some (.int y1), some (.int y2)], [(.int g480), (.ref 19)])) rfl (tX7_rowOf (d + 0) y2 I J 19 sp rr w nw g481 hg481) (fun v h hq => ?_)
        obtain ⟨rfl, rfl⟩ := hq
        obtain ⟨g482, hg482⟩ : ∃ z, fX5_currentAt g480 g481 19 I = z := ⟨_, rfl⟩
        try rw [hg482] at e
        refine mm_T.call (t := 68) (as := [(.ref 19), (.int g480), (.int g481)]) (f' := (44, [some (.ref 1), some (.int y1), some (.int y2)], [])) rfl (tX5_currentAt (d + 1) g480 g481 19 I J 19 sp rr w nw (Or.inr rfl) g482 hg482) (fun v h hq => ?_)
        obtain ⟨rfl, rfl⟩ := hq
        refine mm_T.br (c := 0 < g482) (a := ((47, [some (.ref 1), some (.int y1), some (.int y2)], []), (107, I, J, mm_rf 19 sp rr w nw))) (b := ((53, [some (.ref 1), some (.int y1), some (.int y2)], []), (107, I, J, mm_rf 19 sp rr w nw))) rfl (fun h2418 => ?_) (fun h2418 => ?_)
        · rw [if_pos h2418] at e
          refine mm_T.seg (f' := (4, [some (.ref 1), some (.int (y1 ||| ((1 : Int32) <<< (y2 &&& 31)))), some (.int (y2 + 1))], [])) (h' := (107, I, J, mm_rf 19 sp rr w nw)) 8 rfl ?_
          refine mm_T.mask [true, true, true] ?_
          exact ih (y1 ||| ((1 : Int32) <<< (y2 &&& 31))) (y2 + 1) I J 19 sp rr w nw (Or.inr rfl) out e k
        · rw [if_neg h2418] at e
          refine mm_T.seg (f' := (4, [some (.ref 1), some (.int y1), some (.int (y2 + 1))], [])) (h' := (107, I, J, mm_rf 19 sp rr w nw)) 2 rfl ?_
          refine mm_T.mask [true, true, true] ?_
          exact ih y1 (y2 + 1) I J 19 sp rr w nw (Or.inr rfl) out e k
      · rw [if_neg h2417] at e
        cases e
        refine mm_T.mask [false, true, false] ?_
        exact k
set_option maxRecDepth 100000 in
set_option maxHeartbeats 4000000 in
theorem tX11_pulled (d n : Nat) (I : Nat → Nat → Int32) (J : Nat → Nat → Int64) (rv sp rr w nw : Nat) (hrv : rv = 3 ∨ rv = 19) (out : Int32) (e : fX11_pulled n I rv = some out) : mm_T none (d + 3) 190 (mm_ent 190 [(.ref 1)]) (107, I, J, mm_rf rv sp rr w nw) (fun v h => v = some (.int out) ∧ h = (107, I, J, mm_rf rv sp rr w nw)) := by
  rcases hrv with rfl | rfl
  · unfold fX11_pulled at e
    refine mm_T.seg (f' := (4, [some (.ref 1), some (.int 0), some (.int 0)], [])) (h' := (107, I, J, mm_rf 3 sp rr w nw)) 4 rfl ?_
    refine mm_T.mask [true, true, true] ?_
    obtain ⟨o2419, eo2419, e⟩ := mm_bind e
    refine tlX11_pulled_L4 d _ n 0 0 I J 3 sp rr w nw (Or.inl rfl) o2419 eo2419 ?_
    refine mm_T.seg (f' := (60, [none, some (.int o2419), none], [(.int o2419)])) (h' := (107, I, J, mm_rf 3 sp rr w nw)) 1 rfl ?_
    cases e
    exact mm_T.ret rfl ⟨rfl, rfl⟩
  · unfold fX11_pulled at e
    refine mm_T.seg (f' := (4, [some (.ref 1), some (.int 0), some (.int 0)], [])) (h' := (107, I, J, mm_rf 19 sp rr w nw)) 4 rfl ?_
    refine mm_T.mask [true, true, true] ?_
    obtain ⟨o2419, eo2419, e⟩ := mm_bind e
    refine tlX11_pulled_L4 d _ n 0 0 I J 19 sp rr w nw (Or.inr rfl) o2419 eo2419 ?_
    refine mm_T.seg (f' := (60, [none, some (.int o2419), none], [(.int o2419)])) (h' := (107, I, J, mm_rf 19 sp rr w nw)) 1 rfl ?_
    cases e
    exact mm_T.ret rfl ⟨rfl, rfl⟩
set_option maxRecDepth 100000 in
set_option maxHeartbeats 4000000 in
theorem tlX11_hottest_L6 (d : Nat) (Q : Option Value → mm_H → Prop) : ∀ (n : Nat) (y1 : Int32) (y2 : Int32) (y3 : Int32) (I : Nat → Nat → Int32) (J : Nat → Nat → Int64) (rv sp rr w nw : Nat), (rv = 3 ∨ rv = 19) → ∀ (out : Int32), fX11_hottest_L6 n y1 y2 y3 I rv = some out → mm_T none (d + 3) 191 (64, [none, some (.int out), none, none, none], []) (107, I, J, mm_rf rv sp rr w nw) Q → mm_T none (d + 3) 191 (6, [some (.ref 1), some (.int y1), some (.int y2), some (.int y3), none], []) (107, I, J, mm_rf rv sp rr w nw) Q := by
  intro n
  induction n with
  | zero =>
    intro y1 y2 y3 I J rv sp rr w nw hrv out e k
    rw [fX11_hottest_L6] at e; cases e
  | succ n ih =>
    intro y1 y2 y3 I J rv sp rr w nw hrv out e k
    rcases hrv with rfl | rfl
    · rw [fX11_hottest_L6] at e
      refine mm_T.seg (f' := (11, [some (.ref 1), some (.int y1), some (.int y2), some (.int y3), none], [(.ref 18), (.int y3)])) (h' := (107, I, J, mm_rf 3 sp rr w nw)) 3 rfl ?_
      refine mm_T.seg (f' := (17, [some (.ref 1), some (.int y1), some (.int y2), some (.int y3), none], [(.int (I 3 4)), (.int y3)])) (h' := (107, I, J, mm_rf 3 sp rr w nw)) 2 rfl ?_
      refine mm_T.br (c := y3 < (I 3 4)) (a := ((20, [some (.ref 1), some (.int y1), some (.int y2), some (.int y3), none], []), (107, I, J, mm_rf 3 sp rr w nw))) (b := ((64, [some (.ref 1), some (.int y1), some (.int y2), some (.int y3), none], []), (107, I, J, mm_rf 3 sp rr w nw))) rfl (fun h2423 => ?_) (fun h2423 => ?_)
      · rw [if_pos h2423] at e
        refine mm_T.seg (f' := (24, [some (.ref 1), some (.int y1), some (.int y2), some (.int y3), none], [(.ref 18)])) (h' := (107, I, J, mm_rf 3 sp rr w nw)) 2 rfl ?_
        refine mm_T.seg (f' := (28, [some (.ref 1), some (.int y1), some (.int y2), some (.int y3), none], [(.int y3), (.ref 3)])) (h' := (107, I, J, mm_rf 3 sp rr w nw)) 2 rfl ?_
        obtain ⟨g485, hg485⟩ : ∃ z, fX5_bearsOf y3 3 I = z := ⟨_, rfl⟩
        try rw [hg485] at e
        refine mm_T.call (t := 79) (as := [(.ref 3), (.int y3)]) (f' := (31, [some (.ref 1), some (.int y1), some (.int y2), some (.int y3), none], [])) rfl (tX5_bearsOf (d + 1) y3 3 I J 3 sp rr w nw (Or.inl rfl) g485 hg485) (fun v h hq => ?_)
        obtain ⟨rfl, rfl⟩ := hq
        refine mm_T.seg (f' := (35, [some (.ref 1), some (.int y1), some (.int y2), some (.int y3), none], [(.ref 18), (.int g485)])) (h' := (107, I, J, mm_rf 3 sp rr w nw)) 2 rfl ?_
        refine mm_T.seg (f' := (36, [some (.ref 1), some (.int y1), some (.int y2), some (.int y3), none], [(.int y3), (.ref 18), (.int g485)])) (h' := (107, I, J, mm_rf 3 sp rr w nw)) 1 rfl ?_
        obtain ⟨g486, hg486⟩ : ∃ z, fX7_heatOf y3 I = z := ⟨_, rfl⟩
        try rw [hg486] at e
        refine mm_T.call (t := 107) (as := [(.ref 18), (.int y3)]) (f' := (39, [some (.ref 1), some (.int y1), some (.int y2), some (.int y3), none], [(.int g485)])) rfl (tX7_heatOf (d + 0) y3 I J 3 sp rr w nw g486 hg486) (fun v h hq => ?_)
        obtain ⟨rfl, rfl⟩ := hq
        refine mm_T.seg (f' := (44, [some (.ref 1), some (.int y1), some (.int y2), some (.int y3), some (.int (g485 - g486))], [(.int (-1)), (.int y1)])) (h' := (107, I, J, mm_rf 3 sp rr w nw)) 4 rfl ?_
        refine mm_T.br (c := y1 = (-1)) (a := ((53, [some (.ref 1), some (.int y1), some (.int y2), some (.int y3), some (.int (g485 - g486))], []), (107, I, J, mm_rf 3 sp rr w nw))) (b := ((47, [some (.ref 1), some (.int y1), some (.int y2), some (.int y3), some (.int (g485 - g486))], []), (107, I, J, mm_rf 3 sp rr w nw))) rfl (fun h2424 => ?_) (fun h2424 => ?_)
        · rw [if_pos h2424] at e
          refine mm_T.seg (f' := (6, [some (.ref 1), some (.int y3), some (.int (g485 - g486)), some (.int (y3 + 1)), some (.int (g485 - g486))], [])) (h' := (107, I, J, mm_rf 3 sp rr w nw)) 6 rfl ?_
          refine mm_T.mask [true, true, true, true, false] ?_
          exact ih y3 (g485 - g486) (y3 + 1) I J 3 sp rr w nw (Or.inl rfl) out e k
        · rw [if_neg h2424] at e
          refine mm_T.seg (f' := (50, [some (.ref 1), some (.int y1), some (.int y2), some (.int y3), some (.int (g485 - g486))], [(.int y2), (.int (g485 - g486))])) (h' := (107, I, J, mm_rf 3 sp rr w nw)) 2 rfl ?_
          refine mm_T.br (c := (g485 - g486) < y2) (a := ((53, [some (.ref 1), some (.int y1), some (.int y2), some (.int y3), some (.int (g485 - g486))], []), (107, I, J, mm_rf 3 sp rr w nw))) (b := ((58, [some (.ref 1), some (.int y1), some (.int y2), some (.int y3), some (.int (g485 - g486))], []), (107, I, J, mm_rf 3 sp rr w nw))) rfl (fun h2425 => ?_) (fun h2425 => ?_)
          · rw [if_pos h2425] at e
            refine mm_T.seg (f' := (6, [some (.ref 1), some (.int y3), some (.int (g485 - g486)), some (.int (y3 + 1)), some (.int (g485 - g486))], [])) (h' := (107, I, J, mm_rf 3 sp rr w nw)) 6 rfl ?_
            refine mm_T.mask [true, true, true, true, false] ?_
            exact ih y3 (g485 - g486) (y3 + 1) I J 3 sp rr w nw (Or.inl rfl) out e k
          · rw [if_neg h2425] at e
            refine mm_T.seg (f' := (6, [some (.ref 1), some (.int y1), some (.int y2), some (.int (y3 + 1)), some (.int (g485 - g486))], [])) (h' := (107, I, J, mm_rf 3 sp rr w nw)) 2 rfl ?_
            refine mm_T.mask [true, true, true, true, false] ?_
            exact ih y1 y2 (y3 + 1) I J 3 sp rr w nw (Or.inl rfl) out e k
      · rw [if_neg h2423] at e
        cases e
        refine mm_T.mask [false, true, false, false, false] ?_
        exact k
    · rw [fX11_hottest_L6] at e
      refine mm_T.seg (f' := (11, [some (.ref 1), some (.int y1), some (.int y2), some (.int y3), none], [(.ref 18), (.int y3)])) (h' := (107, I, J, mm_rf 19 sp rr w nw)) 3 rfl ?_
      refine mm_T.seg (f' := (17, [some (.ref 1), some (.int y1), some (.int y2), some (.int y3), none], [(.int (I 19 4)), (.int y3)])) (h' := (107, I, J, mm_rf 19 sp rr w nw)) 2 rfl ?_
      refine mm_T.br (c := y3 < (I 19 4)) (a := ((20, [some (.ref 1), some (.int y1), some (.int y2), some (.int y3), none], []), (107, I, J, mm_rf 19 sp rr w nw))) (b := ((64, [some (.ref 1), some (.int y1), some (.int y2), some (.int y3), none], []), (107, I, J, mm_rf 19 sp rr w nw))) rfl (fun h2423 => ?_) (fun h2423 => ?_)
      · rw [if_pos h2423] at e
        refine mm_T.seg (f' := (24, [some (.ref 1), some (.int y1), some (.int y2), some (.int y3), none], [(.ref 18)])) (h' := (107, I, J, mm_rf 19 sp rr w nw)) 2 rfl ?_
        refine mm_T.seg (f' := (28, [some (.ref 1), some (.int y1), some (.int y2), some (.int y3), none], [(.int y3), (.ref 19)])) (h' := (107, I, J, mm_rf 19 sp rr w nw)) 2 rfl ?_
        obtain ⟨g485, hg485⟩ : ∃ z, fX5_bearsOf y3 19 I = z := ⟨_, rfl⟩
        try rw [hg485] at e
        refine mm_T.call (t := 79) (as := [(.ref 19), (.int y3)]) (f' := (31, [some (.ref 1), some (.int y1), some (.int y2), some (.int y3), none], [])) rfl (tX5_bearsOf (d + 1) y3 19 I J 19 sp rr w nw (Or.inr rfl) g485 hg485) (fun v h hq => ?_)
        obtain ⟨rfl, rfl⟩ := hq
        refine mm_T.seg (f' := (35, [some (.ref 1), some (.int y1), some (.int y2), some (.int y3), none], [(.ref 18), (.int g485)])) (h' := (107, I, J, mm_rf 19 sp rr w nw)) 2 rfl ?_
        refine mm_T.seg (f' := (36, [some (.ref 1), some (.int y1), some (.int y2), some (.int y3), none], [(.int y3), (.ref 18), (.int g485)])) (h' := (107, I, J, mm_rf 19 sp rr w nw)) 1 rfl ?_
        obtain ⟨g486, hg486⟩ : ∃ z, fX7_heatOf y3 I = z := ⟨_, rfl⟩
        try rw [hg486] at e
        refine mm_T.call (t := 107) (as := [(.ref 18), (.int y3)]) (f' := (39, [some (.ref 1), some (.int y1), some (.int y2), some (.int y3), none], [(.int g485)])) rfl (tX7_heatOf (d + 0) y3 I J 19 sp rr w nw g486 hg486) (fun v h hq => ?_)
        obtain ⟨rfl, rfl⟩ := hq
        refine mm_T.seg (f' := (44, [some (.ref 1), some (.int y1), some (.int y2), some (.int y3), some (.int (g485 - g486))], [(.int (-1)), (.int y1)])) (h' := (107, I, J, mm_rf 19 sp rr w nw)) 4 rfl ?_
        refine mm_T.br (c := y1 = (-1)) (a := ((53, [some (.ref 1), some (.int y1), some (.int y2), some (.int y3), some (.int (g485 - g486))], []), (107, I, J, mm_rf 19 sp rr w nw))) (b := ((47, [some (.ref 1), some (.int y1), some (.int y2), some (.int y3), some (.int (g485 - g486))], []), (107, I, J, mm_rf 19 sp rr w nw))) rfl (fun h2424 => ?_) (fun h2424 => ?_)
        · rw [if_pos h2424] at e
          refine mm_T.seg (f' := (6, [some (.ref 1), some (.int y3), some (.int (g485 - g486)), some (.int (y3 + 1)), some (.int (g485 - g486))], [])) (h' := (107, I, J, mm_rf 19 sp rr w nw)) 6 rfl ?_
          refine mm_T.mask [true, true, true, true, false] ?_
          exact ih y3 (g485 - g486) (y3 + 1) I J 19 sp rr w nw (Or.inr rfl) out e k
        · rw [if_neg h2424] at e
          refine mm_T.seg (f' := (50, [some (.ref 1), some (.int y1), some (.int y2), some (.int y3), some (.int (g485 - g486))], [(.int y2), (.int (g485 - g486))])) (h' := (107, I, J, mm_rf 19 sp rr w nw)) 2 rfl ?_
          refine mm_T.br (c := (g485 - g486) < y2) (a := ((53, [some (.ref 1), some (.int y1), some (.int y2), some (.int y3), some (.int (g485 - g486))], []), (107, I, J, mm_rf 19 sp rr w nw))) (b := ((58, [some (.ref 1), some (.int y1), some (.int y2), some (.int y3), some (.int (g485 - g486))], []), (107, I, J, mm_rf 19 sp rr w nw))) rfl (fun h2425 => ?_) (fun h2425 => ?_)
          · rw [if_pos h2425] at e
            refine mm_T.seg (f' := (6, [some (.ref 1), some (.int y3), some (.int (g485 - g486)), some (.int (y3 + 1)), some (.int (g485 - g486))], [])) (h' := (107, I, J, mm_rf 19 sp rr w nw)) 6 rfl ?_
            refine mm_T.mask [true, true, true, true, false] ?_
            exact ih y3 (g485 - g486) (y3 + 1) I J 19 sp rr w nw (Or.inr rfl) out e k
          · rw [if_neg h2425] at e
            refine mm_T.seg (f' := (6, [some (.ref 1), some (.int y1), some (.int y2), some (.int (y3 + 1)), some (.int (g485 - g486))], [])) (h' := (107, I, J, mm_rf 19 sp rr w nw)) 2 rfl ?_
            refine mm_T.mask [true, true, true, true, false] ?_
            exact ih y1 y2 (y3 + 1) I J 19 sp rr w nw (Or.inr rfl) out e k
      · rw [if_neg h2423] at e
        cases e
        refine mm_T.mask [false, true, false, false, false] ?_
        exact k
set_option maxRecDepth 100000 in
set_option maxHeartbeats 4000000 in
theorem tX11_hottest (d n : Nat) (I : Nat → Nat → Int32) (J : Nat → Nat → Int64) (rv sp rr w nw : Nat) (hrv : rv = 3 ∨ rv = 19) (out : Int32) (e : fX11_hottest n I rv = some out) : mm_T none (d + 3) 191 (mm_ent 191 [(.ref 1)]) (107, I, J, mm_rf rv sp rr w nw) (fun v h => v = some (.int out) ∧ h = (107, I, J, mm_rf rv sp rr w nw)) := by
  rcases hrv with rfl | rfl
  · unfold fX11_hottest at e
    refine mm_T.seg (f' := (6, [some (.ref 1), some (.int (-1)), some (.int 0), some (.int 0), none], [])) (h' := (107, I, J, mm_rf 3 sp rr w nw)) 6 rfl ?_
    refine mm_T.mask [true, true, true, true, false] ?_
    obtain ⟨o2426, eo2426, e⟩ := mm_bind e
    refine tlX11_hottest_L6 d _ n (-1) 0 0 I J 3 sp rr w nw (Or.inl rfl) o2426 eo2426 ?_
    refine mm_T.seg (f' := (65, [none, some (.int o2426), none, none, none], [(.int o2426)])) (h' := (107, I, J, mm_rf 3 sp rr w nw)) 1 rfl ?_
    cases e
    exact mm_T.ret rfl ⟨rfl, rfl⟩
  · unfold fX11_hottest at e
    refine mm_T.seg (f' := (6, [some (.ref 1), some (.int (-1)), some (.int 0), some (.int 0), none], [])) (h' := (107, I, J, mm_rf 19 sp rr w nw)) 6 rfl ?_
    refine mm_T.mask [true, true, true, true, false] ?_
    obtain ⟨o2426, eo2426, e⟩ := mm_bind e
    refine tlX11_hottest_L6 d _ n (-1) 0 0 I J 19 sp rr w nw (Or.inr rfl) o2426 eo2426 ?_
    refine mm_T.seg (f' := (65, [none, some (.int o2426), none, none, none], [(.int o2426)])) (h' := (107, I, J, mm_rf 19 sp rr w nw)) 1 rfl ?_
    cases e
    exact mm_T.ret rfl ⟨rfl, rfl⟩
set_option maxRecDepth 100000 in
set_option maxHeartbeats 4000000 in
theorem tlX11_law_L16 (d : Nat) (Q : Option Value → mm_H → Prop) : ∀ (n : Nat) (y1 : Int32) (y2 : Int32) (y3 : Int32) (I : Nat → Nat → Int32) (J : Nat → Nat → Int64) (rv sp rr w nw : Nat), (rv = 3 ∨ rv = 19) → ∀ (out : Int32), fX11_law_L16 n y1 y2 y3 I rv = some out → mm_T none (d + 2) 192 (66, [none, none, some (.int out), none], []) (107, I, J, mm_rf rv sp rr w nw) Q → mm_T none (d + 2) 192 (16, [some (.ref 1), some (.int y1), some (.int y2), some (.int y3)], []) (107, I, J, mm_rf rv sp rr w nw) Q := by
  intro n
  induction n with
  | zero =>
    intro y1 y2 y3 I J rv sp rr w nw hrv out e k
    rw [fX11_law_L16] at e; cases e
  | succ n ih =>
    intro y1 y2 y3 I J rv sp rr w nw hrv out e k
    rcases hrv with rfl | rfl
    · rw [fX11_law_L16] at e
      refine mm_T.seg (f' := (21, [some (.ref 1), some (.int y1), some (.int y2), some (.int y3)], [(.ref 18), (.int y3)])) (h' := (107, I, J, mm_rf 3 sp rr w nw)) 3 rfl ?_
      refine mm_T.seg (f' := (27, [some (.ref 1), some (.int y1), some (.int y2), some (.int y3)], [(.int (I 3 5)), (.int y3)])) (h' := (107, I, J, mm_rf 3 sp rr w nw)) 2 rfl ?_
      refine mm_T.br (c := y3 < (I 3 5)) (a := ((30, [some (.ref 1), some (.int y1), some (.int y2), some (.int y3)], []), (107, I, J, mm_rf 3 sp rr w nw))) (b := ((66, [some (.ref 1), some (.int y1), some (.int y2), some (.int y3)], []), (107, I, J, mm_rf 3 sp rr w nw))) rfl (fun h2432 => ?_) (fun h2432 => ?_)
      · rw [if_pos h2432] at e
        refine mm_T.seg (f' := (34, [some (.ref 1), some (.int y1), some (.int y2), some (.int y3)], [(.ref 18)])) (h' := (107, I, J, mm_rf 3 sp rr w nw)) 2 rfl ?_
        refine mm_T.seg (f' := (35, [some (.ref 1), some (.int y1), some (.int y2), some (.int y3)], [(.int y3), (.ref 18)])) (h' := (107, I, J, mm_rf 3 sp rr w nw)) 1 rfl ?_
        obtain ⟨g489, hg489⟩ : ∃ z, fX7_placeOf y3 I = z := ⟨_, rfl⟩
        try rw [hg489] at e
        refine mm_T.call (t := 112) (as := [(.ref 18), (.int y3)]) (f' := (38, [some (.ref 1), some (.int y1), some (.int y2), some (.int y3)], [])) rfl (tX7_placeOf (d + 0) y3 I J 3 sp rr w nw g489 hg489) (fun v h hq => ?_)
        obtain ⟨rfl, rfl⟩ := hq
        refine mm_T.seg (f' := (39, [some (.ref 1), some (.int y1), some (.int y2), some (.int y3)], [(.int (-1)), (.int g489)])) (h' := (107, I, J, mm_rf 3 sp rr w nw)) 1 rfl ?_
        refine mm_T.br (c := g489 = (-1)) (a := ((42, [some (.ref 1), some (.int y1), some (.int y2), some (.int y3)], []), (107, I, J, mm_rf 3 sp rr w nw))) (b := ((60, [some (.ref 1), some (.int y1), some (.int y2), some (.int y3)], []), (107, I, J, mm_rf 3 sp rr w nw))) rfl (fun h2433 => ?_) (fun h2433 => ?_)
        · rw [if_pos h2433] at e
          refine mm_T.seg (f' := (46, [some (.ref 1), some (.int y1), some (.int y2), some (.int y3)], [(.ref 18)])) (h' := (107, I, J, mm_rf 3 sp rr w nw)) 2 rfl ?_
          refine mm_T.seg (f' := (50, [some (.ref 1), some (.int y1), some (.int y2), some (.int y3)], [(.int y3), (.ref 3)])) (h' := (107, I, J, mm_rf 3 sp rr w nw)) 2 rfl ?_
          obtain ⟨g490, hg490⟩ : ∃ z, fX5_loadWide y3 3 I = z := ⟨_, rfl⟩
          try rw [hg490] at e
          refine mm_T.call (t := 80) (as := [(.ref 3), (.int y3)]) (f' := (53, [some (.ref 1), some (.int y1), some (.int y2), some (.int y3)], [])) rfl (tX5_loadWide (d + 0) y3 3 I J 3 sp rr w nw (Or.inl rfl) g490 hg490) (fun v h hq => ?_)
          obtain ⟨rfl, rfl⟩ := hq
          refine mm_T.seg (f' := (54, [some (.ref 1), some (.int y1), some (.int y2), some (.int y3)], [(.int y1), (.int g490)])) (h' := (107, I, J, mm_rf 3 sp rr w nw)) 1 rfl ?_
          refine mm_T.br (c := y1 < g490) (a := ((60, [some (.ref 1), some (.int y1), some (.int y2), some (.int y3)], []), (107, I, J, mm_rf 3 sp rr w nw))) (b := ((57, [some (.ref 1), some (.int y1), some (.int y2), some (.int y3)], []), (107, I, J, mm_rf 3 sp rr w nw))) rfl (fun h2434 => ?_) (fun h2434 => ?_)
          · rw [if_pos h2434] at e
            refine mm_T.seg (f' := (16, [some (.ref 1), some (.int y1), some (.int y2), some (.int (y3 + 1))], [])) (h' := (107, I, J, mm_rf 3 sp rr w nw)) 2 rfl ?_
            refine mm_T.mask [true, true, true, true] ?_
            exact ih y1 y2 (y3 + 1) I J 3 sp rr w nw (Or.inl rfl) out e k
          · rw [if_neg h2434] at e
            refine mm_T.seg (f' := (16, [some (.ref 1), some (.int y1), some (.int (y2 + 1)), some (.int (y3 + 1))], [])) (h' := (107, I, J, mm_rf 3 sp rr w nw)) 3 rfl ?_
            refine mm_T.mask [true, true, true, true] ?_
            exact ih y1 (y2 + 1) (y3 + 1) I J 3 sp rr w nw (Or.inl rfl) out e k
        · rw [if_neg h2433] at e
          refine mm_T.seg (f' := (16, [some (.ref 1), some (.int y1), some (.int y2), some (.int (y3 + 1))], [])) (h' := (107, I, J, mm_rf 3 sp rr w nw)) 2 rfl ?_
          refine mm_T.mask [true, true, true, true] ?_
          exact ih y1 y2 (y3 + 1) I J 3 sp rr w nw (Or.inl rfl) out e k
      · rw [if_neg h2432] at e
        cases e
        refine mm_T.mask [false, false, true, false] ?_
        exact k
    · rw [fX11_law_L16] at e
      refine mm_T.seg (f' := (21, [some (.ref 1), some (.int y1), some (.int y2), some (.int y3)], [(.ref 18), (.int y3)])) (h' := (107, I, J, mm_rf 19 sp rr w nw)) 3 rfl ?_
      refine mm_T.seg (f' := (27, [some (.ref 1), some (.int y1), some (.int y2), some (.int y3)], [(.int (I 19 5)), (.int y3)])) (h' := (107, I, J, mm_rf 19 sp rr w nw)) 2 rfl ?_
      refine mm_T.br (c := y3 < (I 19 5)) (a := ((30, [some (.ref 1), some (.int y1), some (.int y2), some (.int y3)], []), (107, I, J, mm_rf 19 sp rr w nw))) (b := ((66, [some (.ref 1), some (.int y1), some (.int y2), some (.int y3)], []), (107, I, J, mm_rf 19 sp rr w nw))) rfl (fun h2432 => ?_) (fun h2432 => ?_)
      · rw [if_pos h2432] at e
        refine mm_T.seg (f' := (34, [some (.ref 1), some (.int y1), some (.int y2), some (.int y3)], [(.ref 18)])) (h' := (107, I, J, mm_rf 19 sp rr w nw)) 2 rfl ?_
        refine mm_T.seg (f' := (35, [some (.ref 1), some (.int y1), some (.int y2), some (.int y3)], [(.int y3), (.ref 18)])) (h' := (107, I, J, mm_rf 19 sp rr w nw)) 1 rfl ?_
        obtain ⟨g489, hg489⟩ : ∃ z, fX7_placeOf y3 I = z := ⟨_, rfl⟩
        try rw [hg489] at e
        refine mm_T.call (t := 112) (as := [(.ref 18), (.int y3)]) (f' := (38, [some (.ref 1), some (.int y1), some (.int y2), some (.int y3)], [])) rfl (tX7_placeOf (d + 0) y3 I J 19 sp rr w nw g489 hg489) (fun v h hq => ?_)
        obtain ⟨rfl, rfl⟩ := hq
        refine mm_T.seg (f' := (39, [some (.ref 1), some (.int y1), some (.int y2), some (.int y3)], [(.int (-1)), (.int g489)])) (h' := (107, I, J, mm_rf 19 sp rr w nw)) 1 rfl ?_
        refine mm_T.br (c := g489 = (-1)) (a := ((42, [some (.ref 1), some (.int y1), some (.int y2), some (.int y3)], []), (107, I, J, mm_rf 19 sp rr w nw))) (b := ((60, [some (.ref 1), some (.int y1), some (.int y2), some (.int y3)], []), (107, I, J, mm_rf 19 sp rr w nw))) rfl (fun h2433 => ?_) (fun h2433 => ?_)
        · rw [if_pos h2433] at e
          refine mm_T.seg (f' := (46, [some (.ref 1), some (.int y1), some (.int y2), some (.int y3)], [(.ref 18)])) (h' := (107, I, J, mm_rf 19 sp rr w nw)) 2 rfl ?_
          refine mm_T.seg (f' := (50, [some (.ref 1), some (.int y1), some (.int y2), some (.int y3)], [(.int y3), (.ref 19)])) (h' := (107, I, J, mm_rf 19 sp rr w nw)) 2 rfl ?_
          obtain ⟨g490, hg490⟩ : ∃ z, fX5_loadWide y3 19 I = z := ⟨_, rfl⟩
          try rw [hg490] at e
          refine mm_T.call (t := 80) (as := [(.ref 19), (.int y3)]) (f' := (53, [some (.ref 1), some (.int y1), some (.int y2), some (.int y3)], [])) rfl (tX5_loadWide (d + 0) y3 19 I J 19 sp rr w nw (Or.inr rfl) g490 hg490) (fun v h hq => ?_)
          obtain ⟨rfl, rfl⟩ := hq
          refine mm_T.seg (f' := (54, [some (.ref 1), some (.int y1), some (.int y2), some (.int y3)], [(.int y1), (.int g490)])) (h' := (107, I, J, mm_rf 19 sp rr w nw)) 1 rfl ?_
          refine mm_T.br (c := y1 < g490) (a := ((60, [some (.ref 1), some (.int y1), some (.int y2), some (.int y3)], []), (107, I, J, mm_rf 19 sp rr w nw))) (b := ((57, [some (.ref 1), some (.int y1), some (.int y2), some (.int y3)], []), (107, I, J, mm_rf 19 sp rr w nw))) rfl (fun h2434 => ?_) (fun h2434 => ?_)
          · rw [if_pos h2434] at e
            refine mm_T.seg (f' := (16, [some (.ref 1), some (.int y1), some (.int y2), some (.int (y3 + 1))], [])) (h' := (107, I, J, mm_rf 19 sp rr w nw)) 2 rfl ?_
            refine mm_T.mask [true, true, true, true] ?_
            exact ih y1 y2 (y3 + 1) I J 19 sp rr w nw (Or.inr rfl) out e k
          · rw [if_neg h2434] at e
            refine mm_T.seg (f' := (16, [some (.ref 1), some (.int y1), some (.int (y2 + 1)), some (.int (y3 + 1))], [])) (h' := (107, I, J, mm_rf 19 sp rr w nw)) 3 rfl ?_
            refine mm_T.mask [true, true, true, true] ?_
            exact ih y1 (y2 + 1) (y3 + 1) I J 19 sp rr w nw (Or.inr rfl) out e k
        · rw [if_neg h2433] at e
          refine mm_T.seg (f' := (16, [some (.ref 1), some (.int y1), some (.int y2), some (.int (y3 + 1))], [])) (h' := (107, I, J, mm_rf 19 sp rr w nw)) 2 rfl ?_
          refine mm_T.mask [true, true, true, true] ?_
          exact ih y1 y2 (y3 + 1) I J 19 sp rr w nw (Or.inr rfl) out e k
      · rw [if_neg h2432] at e
        cases e
        refine mm_T.mask [false, false, true, false] ?_
        exact k
set_option maxRecDepth 100000 in
set_option maxHeartbeats 4000000 in
theorem tX11_law (d n : Nat) (x1 : Int32) (I : Nat → Nat → Int32) (J : Nat → Nat → Int64) (rv sp rr w nw : Nat) (hrv : rv = 3 ∨ rv = 19) (out : Int32) (e : fX11_law n x1 I rv = some out) : mm_T none (d + 2) 192 (mm_ent 192 [(.ref 1), (.int x1)]) (107, I, J, mm_rf rv sp rr w nw) (fun v h => v = some (.int out) ∧ h = (107, I, J, mm_rf rv sp rr w nw)) := by
  rcases hrv with rfl | rfl
  · unfold fX11_law at e
    refine mm_T.seg (f' := (1, [some (.ref 1), some (.int x1), none, none], [(.int x1)])) (h' := (107, I, J, mm_rf 3 sp rr w nw)) 1 rfl ?_
    refine mm_T.br (c := x1 < 0) (a := ((10, [some (.ref 1), some (.int x1), none, none], []), (107, I, J, mm_rf 3 sp rr w nw))) (b := ((4, [some (.ref 1), some (.int x1), none, none], []), (107, I, J, mm_rf 3 sp rr w nw))) rfl (fun h2427 => ?_) (fun h2427 => ?_)
    · rw [if_pos h2427] at e
      refine mm_T.seg (f' := (11, [some (.ref 1), some (.int x1), none, none], [(.int (-1))])) (h' := (107, I, J, mm_rf 3 sp rr w nw)) 1 rfl ?_
      cases e
      exact mm_T.ret rfl ⟨rfl, rfl⟩
    · rw [if_neg h2427] at e
      refine mm_T.seg (f' := (7, [some (.ref 1), some (.int x1), none, none], [(.int 99), (.int x1)])) (h' := (107, I, J, mm_rf 3 sp rr w nw)) 2 rfl ?_
      refine mm_T.br (c := 99 < x1) (a := ((10, [some (.ref 1), some (.int x1), none, none], []), (107, I, J, mm_rf 3 sp rr w nw))) (b := ((12, [some (.ref 1), some (.int x1), none, none], []), (107, I, J, mm_rf 3 sp rr w nw))) rfl (fun h2428 => ?_) (fun h2428 => ?_)
      · rw [if_pos h2428] at e
        refine mm_T.seg (f' := (11, [some (.ref 1), some (.int x1), none, none], [(.int (-1))])) (h' := (107, I, J, mm_rf 3 sp rr w nw)) 1 rfl ?_
        cases e
        exact mm_T.ret rfl ⟨rfl, rfl⟩
      · rw [if_neg h2428] at e
        refine mm_T.seg (f' := (16, [some (.ref 1), some (.int x1), some (.int 0), some (.int 0)], [])) (h' := (107, I, J, mm_rf 3 sp rr w nw)) 4 rfl ?_
        refine mm_T.mask [true, true, true, true] ?_
        obtain ⟨o2435, eo2435, e⟩ := mm_bind e
        refine tlX11_law_L16 d _ n x1 0 0 I J 3 sp rr w nw (Or.inl rfl) o2435 eo2435 ?_
        refine mm_T.seg (f' := (67, [none, none, some (.int o2435), none], [(.int o2435)])) (h' := (107, I, J, mm_rf 3 sp rr w nw)) 1 rfl ?_
        cases e
        exact mm_T.ret rfl ⟨rfl, rfl⟩
  · unfold fX11_law at e
    refine mm_T.seg (f' := (1, [some (.ref 1), some (.int x1), none, none], [(.int x1)])) (h' := (107, I, J, mm_rf 19 sp rr w nw)) 1 rfl ?_
    refine mm_T.br (c := x1 < 0) (a := ((10, [some (.ref 1), some (.int x1), none, none], []), (107, I, J, mm_rf 19 sp rr w nw))) (b := ((4, [some (.ref 1), some (.int x1), none, none], []), (107, I, J, mm_rf 19 sp rr w nw))) rfl (fun h2427 => ?_) (fun h2427 => ?_)
    · rw [if_pos h2427] at e
      refine mm_T.seg (f' := (11, [some (.ref 1), some (.int x1), none, none], [(.int (-1))])) (h' := (107, I, J, mm_rf 19 sp rr w nw)) 1 rfl ?_
      cases e
      exact mm_T.ret rfl ⟨rfl, rfl⟩
    · rw [if_neg h2427] at e
      refine mm_T.seg (f' := (7, [some (.ref 1), some (.int x1), none, none], [(.int 99), (.int x1)])) (h' := (107, I, J, mm_rf 19 sp rr w nw)) 2 rfl ?_
      refine mm_T.br (c := 99 < x1) (a := ((10, [some (.ref 1), some (.int x1), none, none], []), (107, I, J, mm_rf 19 sp rr w nw))) (b := ((12, [some (.ref 1), some (.int x1), none, none], []), (107, I, J, mm_rf 19 sp rr w nw))) rfl (fun h2428 => ?_) (fun h2428 => ?_)
      · rw [if_pos h2428] at e
        refine mm_T.seg (f' := (11, [some (.ref 1), some (.int x1), none, none], [(.int (-1))])) (h' := (107, I, J, mm_rf 19 sp rr w nw)) 1 rfl ?_
        cases e
        exact mm_T.ret rfl ⟨rfl, rfl⟩
      · rw [if_neg h2428] at e
        refine mm_T.seg (f' := (16, [some (.ref 1), some (.int x1), some (.int 0), some (.int 0)], [])) (h' := (107, I, J, mm_rf 19 sp rr w nw)) 4 rfl ?_
        refine mm_T.mask [true, true, true, true] ?_
        obtain ⟨o2435, eo2435, e⟩ := mm_bind e
        refine tlX11_law_L16 d _ n x1 0 0 I J 19 sp rr w nw (Or.inr rfl) o2435 eo2435 ?_
        refine mm_T.seg (f' := (67, [none, none, some (.int o2435), none], [(.int o2435)])) (h' := (107, I, J, mm_rf 19 sp rr w nw)) 1 rfl ?_
        cases e
        exact mm_T.ret rfl ⟨rfl, rfl⟩
set_option maxRecDepth 100000 in
set_option maxHeartbeats 4000000 in
theorem tX11_lies (d : Nat) (x1 : Int32) (I : Nat → Nat → Int32) (J : Nat → Nat → Int64) (rv sp rr w nw : Nat) (out : Int32) (e : fX11_lies x1 I = out) : mm_T none (d + 2) 193 (mm_ent 193 [(.ref 1), (.int x1)]) (107, I, J, mm_rf rv sp rr w nw) (fun v h => v = some (.int out) ∧ h = (107, I, J, mm_rf rv sp rr w nw)) := by
  unfold fX11_lies at e
  refine mm_T.seg (f' := (4, [some (.ref 1), some (.int x1)], [(.ref 35)])) (h' := (107, I, J, mm_rf rv sp rr w nw)) 2 rfl ?_
  refine mm_T.seg (f' := (5, [some (.ref 1), some (.int x1)], [(.int x1), (.ref 35)])) (h' := (107, I, J, mm_rf rv sp rr w nw)) 1 rfl ?_
  obtain ⟨g491, hg491⟩ : ∃ z, fX3_numberAt x1 I = z := ⟨_, rfl⟩
  try rw [hg491] at e
  refine mm_T.call (t := 26) (as := [(.ref 35), (.int x1)]) (f' := (8, [some (.ref 1), some (.int x1)], [])) rfl (tX3_numberAt (d + 0) x1 I J rv sp rr w nw g491 hg491) (fun v h hq => ?_)
  obtain ⟨rfl, rfl⟩ := hq
  cases e
  exact mm_T.ret rfl ⟨rfl, rfl⟩
set_option maxRecDepth 100000 in
set_option maxHeartbeats 4000000 in
theorem tX11_passed (d : Nat) (x1 : Int32) (x2 : Int32) (x3 : Int32) (I : Nat → Nat → Int32) (J : Nat → Nat → Int64) (rv sp rr w nw : Nat) (hrv : rv = 3 ∨ rv = 19) (out : Int32 × (Nat → Nat → Int32)) (e : fX11_passed x1 x2 x3 I rv = out) : mm_T none (d + 3) 194 (mm_ent 194 [(.ref 1), (.int x1), (.int x2), (.int x3)]) (107, I, J, mm_rf rv sp rr w nw) (fun v h => v = some (.int out.1) ∧ h = (107, out.2, J, mm_rf rv sp rr w nw)) := by
  rcases hrv with rfl | rfl
  · unfold fX11_passed at e
    refine mm_T.seg (f' := (1, [some (.ref 1), some (.int x1), some (.int x2), some (.int x3)], [(.int x2)])) (h' := (107, I, J, mm_rf 3 sp rr w nw)) 1 rfl ?_
    refine mm_T.br (c := x2 < 0) (a := ((10, [some (.ref 1), some (.int x1), some (.int x2), some (.int x3)], []), (107, I, J, mm_rf 3 sp rr w nw))) (b := ((4, [some (.ref 1), some (.int x1), some (.int x2), some (.int x3)], []), (107, I, J, mm_rf 3 sp rr w nw))) rfl (fun h2436 => ?_) (fun h2436 => ?_)
    · rw [if_pos h2436] at e
      refine mm_T.seg (f' := (25, [some (.ref 1), some (.int x1), some (.int x2), some (.int x3)], [(.int (-1))])) (h' := (107, I, J, mm_rf 3 sp rr w nw)) 2 rfl ?_
      cases e
      exact mm_T.ret rfl ⟨rfl, rfl⟩
    · rw [if_neg h2436] at e
      refine mm_T.seg (f' := (7, [some (.ref 1), some (.int x1), some (.int x2), some (.int x3)], [(.int 7), (.int x2)])) (h' := (107, I, J, mm_rf 3 sp rr w nw)) 2 rfl ?_
      refine mm_T.br (c := 7 < x2) (a := ((10, [some (.ref 1), some (.int x1), some (.int x2), some (.int x3)], []), (107, I, J, mm_rf 3 sp rr w nw))) (b := ((14, [some (.ref 1), some (.int x1), some (.int x2), some (.int x3)], []), (107, I, J, mm_rf 3 sp rr w nw))) rfl (fun h2437 => ?_) (fun h2437 => ?_)
      · rw [if_pos h2437] at e
        refine mm_T.seg (f' := (25, [some (.ref 1), some (.int x1), some (.int x2), some (.int x3)], [(.int (-1))])) (h' := (107, I, J, mm_rf 3 sp rr w nw)) 2 rfl ?_
        cases e
        exact mm_T.ret rfl ⟨rfl, rfl⟩
      · rw [if_neg h2437] at e
        refine mm_T.seg (f' := (18, [some (.ref 1), some (.int x1), some (.int x2), some (.int x3)], [(.ref 54)])) (h' := (107, I, J, mm_rf 3 sp rr w nw)) 2 rfl ?_
        refine mm_T.seg (f' := (22, [some (.ref 1), some (.int x1), some (.int x2), some (.int x3)], [(.int x3), (.int x2), (.int x1), (.int 0), (.ref 54)])) (h' := (107, I, J, mm_rf 3 sp rr w nw)) 4 rfl ?_
        obtain ⟨g492, hg492⟩ : ∃ z, fX10_tell 0 x1 x2 x3 I 3 = z := ⟨_, rfl⟩
        try rw [hg492] at e
        refine mm_T.call (t := 143) (as := [(.ref 54), (.int 0), (.int x1), (.int x2), (.int x3)]) (f' := (25, [some (.ref 1), some (.int x1), some (.int x2), some (.int x3)], [])) rfl (tX10_tell (d + 0) 0 x1 x2 x3 I J 3 sp rr w nw (Or.inl rfl) g492 hg492) (fun v h hq => ?_)
        obtain ⟨rfl, rfl⟩ := hq
        cases e
        exact mm_T.ret rfl ⟨rfl, rfl⟩
  · unfold fX11_passed at e
    refine mm_T.seg (f' := (1, [some (.ref 1), some (.int x1), some (.int x2), some (.int x3)], [(.int x2)])) (h' := (107, I, J, mm_rf 19 sp rr w nw)) 1 rfl ?_
    refine mm_T.br (c := x2 < 0) (a := ((10, [some (.ref 1), some (.int x1), some (.int x2), some (.int x3)], []), (107, I, J, mm_rf 19 sp rr w nw))) (b := ((4, [some (.ref 1), some (.int x1), some (.int x2), some (.int x3)], []), (107, I, J, mm_rf 19 sp rr w nw))) rfl (fun h2436 => ?_) (fun h2436 => ?_)
    · rw [if_pos h2436] at e
      refine mm_T.seg (f' := (25, [some (.ref 1), some (.int x1), some (.int x2), some (.int x3)], [(.int (-1))])) (h' := (107, I, J, mm_rf 19 sp rr w nw)) 2 rfl ?_
      cases e
      exact mm_T.ret rfl ⟨rfl, rfl⟩
    · rw [if_neg h2436] at e
      refine mm_T.seg (f' := (7, [some (.ref 1), some (.int x1), some (.int x2), some (.int x3)], [(.int 7), (.int x2)])) (h' := (107, I, J, mm_rf 19 sp rr w nw)) 2 rfl ?_
      refine mm_T.br (c := 7 < x2) (a := ((10, [some (.ref 1), some (.int x1), some (.int x2), some (.int x3)], []), (107, I, J, mm_rf 19 sp rr w nw))) (b := ((14, [some (.ref 1), some (.int x1), some (.int x2), some (.int x3)], []), (107, I, J, mm_rf 19 sp rr w nw))) rfl (fun h2437 => ?_) (fun h2437 => ?_)
      · rw [if_pos h2437] at e
        refine mm_T.seg (f' := (25, [some (.ref 1), some (.int x1), some (.int x2), some (.int x3)], [(.int (-1))])) (h' := (107, I, J, mm_rf 19 sp rr w nw)) 2 rfl ?_
        cases e
        exact mm_T.ret rfl ⟨rfl, rfl⟩
      · rw [if_neg h2437] at e
        refine mm_T.seg (f' := (18, [some (.ref 1), some (.int x1), some (.int x2), some (.int x3)], [(.ref 54)])) (h' := (107, I, J, mm_rf 19 sp rr w nw)) 2 rfl ?_
        refine mm_T.seg (f' := (22, [some (.ref 1), some (.int x1), some (.int x2), some (.int x3)], [(.int x3), (.int x2), (.int x1), (.int 0), (.ref 54)])) (h' := (107, I, J, mm_rf 19 sp rr w nw)) 4 rfl ?_
        obtain ⟨g492, hg492⟩ : ∃ z, fX10_tell 0 x1 x2 x3 I 19 = z := ⟨_, rfl⟩
        try rw [hg492] at e
        refine mm_T.call (t := 143) (as := [(.ref 54), (.int 0), (.int x1), (.int x2), (.int x3)]) (f' := (25, [some (.ref 1), some (.int x1), some (.int x2), some (.int x3)], [])) rfl (tX10_tell (d + 0) 0 x1 x2 x3 I J 19 sp rr w nw (Or.inr rfl) g492 hg492) (fun v h hq => ?_)
        obtain ⟨rfl, rfl⟩ := hq
        cases e
        exact mm_T.ret rfl ⟨rfl, rfl⟩
set_option maxRecDepth 100000 in
set_option maxHeartbeats 4000000 in
theorem tX11_felt (d : Nat) (x1 : Int32) (x2 : Int32) (x3 : Int32) (I : Nat → Nat → Int32) (J : Nat → Nat → Int64) (rv sp rr w nw : Nat) (hrv : rv = 3 ∨ rv = 19) (out : Int32 × (Nat → Nat → Int32)) (e : fX11_felt x1 x2 x3 I rv = out) : mm_T none (d + 3) 195 (mm_ent 195 [(.ref 1), (.int x1), (.int x2), (.int x3)]) (107, I, J, mm_rf rv sp rr w nw) (fun v h => v = some (.int out.1) ∧ h = (107, out.2, J, mm_rf rv sp rr w nw)) := by
  rcases hrv with rfl | rfl
  · unfold fX11_felt at e
    refine mm_T.seg (f' := (1, [some (.ref 1), some (.int x1), some (.int x2), some (.int x3)], [(.int x2)])) (h' := (107, I, J, mm_rf 3 sp rr w nw)) 1 rfl ?_
    refine mm_T.br (c := x2 < 0) (a := ((10, [some (.ref 1), some (.int x1), some (.int x2), some (.int x3)], []), (107, I, J, mm_rf 3 sp rr w nw))) (b := ((4, [some (.ref 1), some (.int x1), some (.int x2), some (.int x3)], []), (107, I, J, mm_rf 3 sp rr w nw))) rfl (fun h2438 => ?_) (fun h2438 => ?_)
    · rw [if_pos h2438] at e
      refine mm_T.seg (f' := (25, [some (.ref 1), some (.int x1), some (.int x2), some (.int x3)], [(.int (-1))])) (h' := (107, I, J, mm_rf 3 sp rr w nw)) 2 rfl ?_
      cases e
      exact mm_T.ret rfl ⟨rfl, rfl⟩
    · rw [if_neg h2438] at e
      refine mm_T.seg (f' := (7, [some (.ref 1), some (.int x1), some (.int x2), some (.int x3)], [(.int 99), (.int x2)])) (h' := (107, I, J, mm_rf 3 sp rr w nw)) 2 rfl ?_
      refine mm_T.br (c := 99 < x2) (a := ((10, [some (.ref 1), some (.int x1), some (.int x2), some (.int x3)], []), (107, I, J, mm_rf 3 sp rr w nw))) (b := ((14, [some (.ref 1), some (.int x1), some (.int x2), some (.int x3)], []), (107, I, J, mm_rf 3 sp rr w nw))) rfl (fun h2439 => ?_) (fun h2439 => ?_)
      · rw [if_pos h2439] at e
        refine mm_T.seg (f' := (25, [some (.ref 1), some (.int x1), some (.int x2), some (.int x3)], [(.int (-1))])) (h' := (107, I, J, mm_rf 3 sp rr w nw)) 2 rfl ?_
        cases e
        exact mm_T.ret rfl ⟨rfl, rfl⟩
      · rw [if_neg h2439] at e
        refine mm_T.seg (f' := (18, [some (.ref 1), some (.int x1), some (.int x2), some (.int x3)], [(.ref 54)])) (h' := (107, I, J, mm_rf 3 sp rr w nw)) 2 rfl ?_
        refine mm_T.seg (f' := (22, [some (.ref 1), some (.int x1), some (.int x2), some (.int x3)], [(.int x3), (.int x2), (.int x1), (.int 1), (.ref 54)])) (h' := (107, I, J, mm_rf 3 sp rr w nw)) 4 rfl ?_
        obtain ⟨g493, hg493⟩ : ∃ z, fX10_tell 1 x1 x2 x3 I 3 = z := ⟨_, rfl⟩
        try rw [hg493] at e
        refine mm_T.call (t := 143) (as := [(.ref 54), (.int 1), (.int x1), (.int x2), (.int x3)]) (f' := (25, [some (.ref 1), some (.int x1), some (.int x2), some (.int x3)], [])) rfl (tX10_tell (d + 0) 1 x1 x2 x3 I J 3 sp rr w nw (Or.inl rfl) g493 hg493) (fun v h hq => ?_)
        obtain ⟨rfl, rfl⟩ := hq
        cases e
        exact mm_T.ret rfl ⟨rfl, rfl⟩
  · unfold fX11_felt at e
    refine mm_T.seg (f' := (1, [some (.ref 1), some (.int x1), some (.int x2), some (.int x3)], [(.int x2)])) (h' := (107, I, J, mm_rf 19 sp rr w nw)) 1 rfl ?_
    refine mm_T.br (c := x2 < 0) (a := ((10, [some (.ref 1), some (.int x1), some (.int x2), some (.int x3)], []), (107, I, J, mm_rf 19 sp rr w nw))) (b := ((4, [some (.ref 1), some (.int x1), some (.int x2), some (.int x3)], []), (107, I, J, mm_rf 19 sp rr w nw))) rfl (fun h2438 => ?_) (fun h2438 => ?_)
    · rw [if_pos h2438] at e
      refine mm_T.seg (f' := (25, [some (.ref 1), some (.int x1), some (.int x2), some (.int x3)], [(.int (-1))])) (h' := (107, I, J, mm_rf 19 sp rr w nw)) 2 rfl ?_
      cases e
      exact mm_T.ret rfl ⟨rfl, rfl⟩
    · rw [if_neg h2438] at e
      refine mm_T.seg (f' := (7, [some (.ref 1), some (.int x1), some (.int x2), some (.int x3)], [(.int 99), (.int x2)])) (h' := (107, I, J, mm_rf 19 sp rr w nw)) 2 rfl ?_
      refine mm_T.br (c := 99 < x2) (a := ((10, [some (.ref 1), some (.int x1), some (.int x2), some (.int x3)], []), (107, I, J, mm_rf 19 sp rr w nw))) (b := ((14, [some (.ref 1), some (.int x1), some (.int x2), some (.int x3)], []), (107, I, J, mm_rf 19 sp rr w nw))) rfl (fun h2439 => ?_) (fun h2439 => ?_)
      · rw [if_pos h2439] at e
        refine mm_T.seg (f' := (25, [some (.ref 1), some (.int x1), some (.int x2), some (.int x3)], [(.int (-1))])) (h' := (107, I, J, mm_rf 19 sp rr w nw)) 2 rfl ?_
        cases e
        exact mm_T.ret rfl ⟨rfl, rfl⟩
      · rw [if_neg h2439] at e
        refine mm_T.seg (f' := (18, [some (.ref 1), some (.int x1), some (.int x2), some (.int x3)], [(.ref 54)])) (h' := (107, I, J, mm_rf 19 sp rr w nw)) 2 rfl ?_
        refine mm_T.seg (f' := (22, [some (.ref 1), some (.int x1), some (.int x2), some (.int x3)], [(.int x3), (.int x2), (.int x1), (.int 1), (.ref 54)])) (h' := (107, I, J, mm_rf 19 sp rr w nw)) 4 rfl ?_
        obtain ⟨g493, hg493⟩ : ∃ z, fX10_tell 1 x1 x2 x3 I 19 = z := ⟨_, rfl⟩
        try rw [hg493] at e
        refine mm_T.call (t := 143) (as := [(.ref 54), (.int 1), (.int x1), (.int x2), (.int x3)]) (f' := (25, [some (.ref 1), some (.int x1), some (.int x2), some (.int x3)], [])) rfl (tX10_tell (d + 0) 1 x1 x2 x3 I J 19 sp rr w nw (Or.inr rfl) g493 hg493) (fun v h hq => ?_)
        obtain ⟨rfl, rfl⟩ := hq
        cases e
        exact mm_T.ret rfl ⟨rfl, rfl⟩
