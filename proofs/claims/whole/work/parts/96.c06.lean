set_option maxRecDepth 100000 in
set_option maxHeartbeats 4000000 in
theorem tX5_clear (d : Nat) (r : Nat) (I : Nat → Nat → Int32) (J : Nat → Nat → Int64) (rv sp rr w nw : Nat) (hr : r = 3 ∨ r = 19) (out : (Nat → Nat → Int32)) (e : fX5_clear r I = out) : mm_T none (d + 1) 64 (mm_ent 64 [(.ref r)]) (107, I, J, mm_rf rv sp rr w nw) (fun v h => v = none ∧ h = (107, out, J, mm_rf rv sp rr w nw)) := by
  rcases hr with rfl | rfl
  · unfold fX5_clear at e
    refine mm_T.seg (f' := (46, [some (.ref 3)], [(.ref (3 + 1))])) (h' := (107, (mm_up (mm_up (mm_up (mm_up (mm_up (mm_up (mm_up (mm_up I 3 0 8) 3 1 6) 3 2 0) 3 3 0) 3 4 0) 3 5 0) 3 6 0) 3 7 0), J, mm_rf rv sp rr w nw)) 26 rfl ?_
    obtain ⟨g247, hg247⟩ : ∃ z, fX0_clear (3 + 1) (mm_up (mm_up (mm_up (mm_up (mm_up (mm_up (mm_up (mm_up I 3 0 8) 3 1 6) 3 2 0) 3 3 0) 3 4 0) 3 5 0) 3 6 0) 3 7 0) = z := ⟨_, rfl⟩
    try rw [hg247] at e
    refine mm_T.call (t := 1) (as := [(.ref (3 + 1))]) (f' := (49, [some (.ref 3)], [])) rfl (tX0_clear (d + 0) (3 + 1) (mm_up (mm_up (mm_up (mm_up (mm_up (mm_up (mm_up (mm_up I 3 0 8) 3 1 6) 3 2 0) 3 3 0) 3 4 0) 3 5 0) 3 6 0) 3 7 0) J rv sp rr w nw (Or.inl rfl) g247 hg247) (fun v h hq => ?_)
    obtain ⟨rfl, rfl⟩ := hq
    refine mm_T.seg (f' := (53, [some (.ref 3)], [(.ref (3 + 5))])) (h' := (107, g247, J, mm_rf rv sp rr w nw)) 2 rfl ?_
    refine mm_T.seg (f' := (54, [some (.ref 3)], [(.int (-1)), (.ref (3 + 5))])) (h' := (107, g247, J, mm_rf rv sp rr w nw)) 1 rfl ?_
    refine mm_T.call (t := 344) (as := [(.ref (3 + 5)), (.int (-1))]) (f' := (57, [some (.ref 3)], [])) rfl (t_fill _ (3 + 5) 56 (-1) g247 J (mm_rf rv sp rr w nw) rfl rfl) (fun v h hq => ?_)
    obtain ⟨rfl, rfl⟩ := hq
    refine mm_T.seg (f' := (61, [some (.ref 3)], [(.ref (3 + 6))])) (h' := (107, (mf_fill g247 (3 + 5) 56 (-1)), J, mm_rf rv sp rr w nw)) 2 rfl ?_
    refine mm_T.seg (f' := (62, [some (.ref 3)], [(.int 0), (.ref (3 + 6))])) (h' := (107, (mf_fill g247 (3 + 5) 56 (-1)), J, mm_rf rv sp rr w nw)) 1 rfl ?_
    refine mm_T.call (t := 344) (as := [(.ref (3 + 6)), (.int 0)]) (f' := (65, [some (.ref 3)], [])) rfl (t_fill _ (3 + 6) 56 0 (mf_fill g247 (3 + 5) 56 (-1)) J (mm_rf rv sp rr w nw) rfl rfl) (fun v h hq => ?_)
    obtain ⟨rfl, rfl⟩ := hq
    cases e
    exact mm_T.ret rfl ⟨rfl, rfl⟩
  · unfold fX5_clear at e
    refine mm_T.seg (f' := (46, [some (.ref 19)], [(.ref (19 + 1))])) (h' := (107, (mm_up (mm_up (mm_up (mm_up (mm_up (mm_up (mm_up (mm_up I 19 0 8) 19 1 6) 19 2 0) 19 3 0) 19 4 0) 19 5 0) 19 6 0) 19 7 0), J, mm_rf rv sp rr w nw)) 26 rfl ?_
    obtain ⟨g247, hg247⟩ : ∃ z, fX0_clear (19 + 1) (mm_up (mm_up (mm_up (mm_up (mm_up (mm_up (mm_up (mm_up I 19 0 8) 19 1 6) 19 2 0) 19 3 0) 19 4 0) 19 5 0) 19 6 0) 19 7 0) = z := ⟨_, rfl⟩
    try rw [hg247] at e
    refine mm_T.call (t := 1) (as := [(.ref (19 + 1))]) (f' := (49, [some (.ref 19)], [])) rfl (tX0_clear (d + 0) (19 + 1) (mm_up (mm_up (mm_up (mm_up (mm_up (mm_up (mm_up (mm_up I 19 0 8) 19 1 6) 19 2 0) 19 3 0) 19 4 0) 19 5 0) 19 6 0) 19 7 0) J rv sp rr w nw (Or.inr rfl) g247 hg247) (fun v h hq => ?_)
    obtain ⟨rfl, rfl⟩ := hq
    refine mm_T.seg (f' := (53, [some (.ref 19)], [(.ref (19 + 5))])) (h' := (107, g247, J, mm_rf rv sp rr w nw)) 2 rfl ?_
    refine mm_T.seg (f' := (54, [some (.ref 19)], [(.int (-1)), (.ref (19 + 5))])) (h' := (107, g247, J, mm_rf rv sp rr w nw)) 1 rfl ?_
    refine mm_T.call (t := 344) (as := [(.ref (19 + 5)), (.int (-1))]) (f' := (57, [some (.ref 19)], [])) rfl (t_fill _ (19 + 5) 56 (-1) g247 J (mm_rf rv sp rr w nw) rfl rfl) (fun v h hq => ?_)
    obtain ⟨rfl, rfl⟩ := hq
    refine mm_T.seg (f' := (61, [some (.ref 19)], [(.ref (19 + 6))])) (h' := (107, (mf_fill g247 (19 + 5) 56 (-1)), J, mm_rf rv sp rr w nw)) 2 rfl ?_
    refine mm_T.seg (f' := (62, [some (.ref 19)], [(.int 0), (.ref (19 + 6))])) (h' := (107, (mf_fill g247 (19 + 5) 56 (-1)), J, mm_rf rv sp rr w nw)) 1 rfl ?_
    refine mm_T.call (t := 344) (as := [(.ref (19 + 6)), (.int 0)]) (f' := (65, [some (.ref 19)], [])) rfl (t_fill _ (19 + 6) 56 0 (mf_fill g247 (19 + 5) 56 (-1)) J (mm_rf rv sp rr w nw) rfl rfl) (fun v h hq => ?_)
    obtain ⟨rfl, rfl⟩ := hq
    cases e
    exact mm_T.ret rfl ⟨rfl, rfl⟩
set_option maxRecDepth 100000 in
set_option maxHeartbeats 4000000 in
theorem tX5_currentAt (d : Nat) (x1 : Int32) (x2 : Int32) (r : Nat) (I : Nat → Nat → Int32) (J : Nat → Nat → Int64) (rv sp rr w nw : Nat) (hr : r = 3 ∨ r = 19) (out : Int32) (e : fX5_currentAt x1 x2 r I = out) : mm_T none (d + 1) 68 (mm_ent 68 [(.ref r), (.int x1), (.int x2)]) (107, I, J, mm_rf rv sp rr w nw) (fun v h => v = some (.int out) ∧ h = (107, I, J, mm_rf rv sp rr w nw)) := by
  rcases hr with rfl | rfl
  · unfold fX5_currentAt at e
    refine mm_T.seg (f' := (3, [some (.ref 3), some (.int x1), some (.int x2)], [(.int x2), (.int x1), (.ref 3)])) (h' := (107, I, J, mm_rf rv sp rr w nw)) 3 rfl ?_
    obtain ⟨g248, hg248⟩ : ∃ z, fX5_isCell x1 x2 3 I = z := ⟨_, rfl⟩
    try rw [hg248] at e
    refine mm_T.call (t := 66) (as := [(.ref 3), (.int x1), (.int x2)]) (f' := (6, [some (.ref 3), some (.int x1), some (.int x2)], [])) rfl (tX5_isCell (d + 0) x1 x2 3 I J rv sp rr w nw (Or.inl rfl) g248 hg248) (fun v h hq => ?_)
    obtain ⟨rfl, rfl⟩ := hq
    refine mm_T.br (c := g248 = 0) (a := ((28, [some (.ref 3), some (.int x1), some (.int x2)], []), (107, I, J, mm_rf rv sp rr w nw))) (b := ((9, [some (.ref 3), some (.int x1), some (.int x2)], []), (107, I, J, mm_rf rv sp rr w nw))) rfl (fun h1951 => ?_) (fun h1951 => ?_)
    · rw [if_pos h1951] at e
      refine mm_T.seg (f' := (29, [some (.ref 3), some (.int x1), some (.int x2)], [(.int 0)])) (h' := (107, I, J, mm_rf rv sp rr w nw)) 1 rfl ?_
      cases e
      exact mm_T.ret rfl ⟨rfl, rfl⟩
    · rw [if_neg h1951] at e
      refine mm_T.seg (f' := (14, [some (.ref 3), some (.int x1), some (.int x2)], [(.ref (3 + 5)), (.int 0)])) (h' := (107, I, J, mm_rf rv sp rr w nw)) 3 rfl ?_
      refine mm_T.seg (f' := (16, [some (.ref 3), some (.int x1), some (.int x2)], [(.int x2), (.int x1), (.ref (3 + 5)), (.int 0)])) (h' := (107, I, J, mm_rf rv sp rr w nw)) 2 rfl ?_
      obtain ⟨g249, hg249⟩ : ∃ z, fX5_cell x1 x2 = z := ⟨_, rfl⟩
      try rw [hg249] at e
      refine mm_T.call (t := 65) (as := [(.int x1), (.int x2)]) (f' := (19, [some (.ref 3), some (.int x1), some (.int x2)], [(.ref (3 + 5)), (.int 0)])) rfl (tX5_cell (d + 0) x1 x2 I J rv sp rr w nw g249 hg249) (fun v h hq => ?_)
      obtain ⟨rfl, rfl⟩ := hq
      refine mm_T.call (t := 204) (as := [(.ref (3 + 5)), (.int g249)]) (f' := (22, [some (.ref 3), some (.int x1), some (.int x2)], [(.int 0)])) rfl (t_pick _ (3 + 5) 56 g249 I J (mm_rf rv sp rr w nw) rfl rfl) (fun v h hq => ?_)
      obtain ⟨rfl, rfl⟩ := hq
      obtain ⟨g250, hg250⟩ : ∃ z, fJ9_max 0 (mf_pick I (3 + 5) 56 g249) = z := ⟨_, rfl⟩
      try rw [hg250] at e
      refine mm_T.call (t := 347) (as := [(.int 0), (.int (mf_pick I (3 + 5) 56 g249))]) (f' := (25, [some (.ref 3), some (.int x1), some (.int x2)], [])) rfl (tJ9_max (d + 0) 0 (mf_pick I (3 + 5) 56 g249) I J rv sp rr w nw g250 hg250) (fun v h hq => ?_)
      obtain ⟨rfl, rfl⟩ := hq
      refine mm_T.seg (f' := (29, [some (.ref 3), some (.int x1), some (.int x2)], [(.int g250)])) (h' := (107, I, J, mm_rf rv sp rr w nw)) 1 rfl ?_
      cases e
      exact mm_T.ret rfl ⟨rfl, rfl⟩
  · unfold fX5_currentAt at e
    refine mm_T.seg (f' := (3, [some (.ref 19), some (.int x1), some (.int x2)], [(.int x2), (.int x1), (.ref 19)])) (h' := (107, I, J, mm_rf rv sp rr w nw)) 3 rfl ?_
    obtain ⟨g248, hg248⟩ : ∃ z, fX5_isCell x1 x2 19 I = z := ⟨_, rfl⟩
    try rw [hg248] at e
    refine mm_T.call (t := 66) (as := [(.ref 19), (.int x1), (.int x2)]) (f' := (6, [some (.ref 19), some (.int x1), some (.int x2)], [])) rfl (tX5_isCell (d + 0) x1 x2 19 I J rv sp rr w nw (Or.inr rfl) g248 hg248) (fun v h hq => ?_)
    obtain ⟨rfl, rfl⟩ := hq
    refine mm_T.br (c := g248 = 0) (a := ((28, [some (.ref 19), some (.int x1), some (.int x2)], []), (107, I, J, mm_rf rv sp rr w nw))) (b := ((9, [some (.ref 19), some (.int x1), some (.int x2)], []), (107, I, J, mm_rf rv sp rr w nw))) rfl (fun h1951 => ?_) (fun h1951 => ?_)
    · rw [if_pos h1951] at e
      refine mm_T.seg (f' := (29, [some (.ref 19), some (.int x1), some (.int x2)], [(.int 0)])) (h' := (107, I, J, mm_rf rv sp rr w nw)) 1 rfl ?_
      cases e
      exact mm_T.ret rfl ⟨rfl, rfl⟩
    · rw [if_neg h1951] at e
      refine mm_T.seg (f' := (14, [some (.ref 19), some (.int x1), some (.int x2)], [(.ref (19 + 5)), (.int 0)])) (h' := (107, I, J, mm_rf rv sp rr w nw)) 3 rfl ?_
      refine mm_T.seg (f' := (16, [some (.ref 19), some (.int x1), some (.int x2)], [(.int x2), (.int x1), (.ref (19 + 5)), (.int 0)])) (h' := (107, I, J, mm_rf rv sp rr w nw)) 2 rfl ?_
      obtain ⟨g249, hg249⟩ : ∃ z, fX5_cell x1 x2 = z := ⟨_, rfl⟩
      try rw [hg249] at e
      refine mm_T.call (t := 65) (as := [(.int x1), (.int x2)]) (f' := (19, [some (.ref 19), some (.int x1), some (.int x2)], [(.ref (19 + 5)), (.int 0)])) rfl (tX5_cell (d + 0) x1 x2 I J rv sp rr w nw g249 hg249) (fun v h hq => ?_)
      obtain ⟨rfl, rfl⟩ := hq
      refine mm_T.call (t := 204) (as := [(.ref (19 + 5)), (.int g249)]) (f' := (22, [some (.ref 19), some (.int x1), some (.int x2)], [(.int 0)])) rfl (t_pick _ (19 + 5) 56 g249 I J (mm_rf rv sp rr w nw) rfl rfl) (fun v h hq => ?_)
      obtain ⟨rfl, rfl⟩ := hq
      obtain ⟨g250, hg250⟩ : ∃ z, fJ9_max 0 (mf_pick I (19 + 5) 56 g249) = z := ⟨_, rfl⟩
      try rw [hg250] at e
      refine mm_T.call (t := 347) (as := [(.int 0), (.int (mf_pick I (19 + 5) 56 g249))]) (f' := (25, [some (.ref 19), some (.int x1), some (.int x2)], [])) rfl (tJ9_max (d + 0) 0 (mf_pick I (19 + 5) 56 g249) I J rv sp rr w nw g250 hg250) (fun v h hq => ?_)
      obtain ⟨rfl, rfl⟩ := hq
      refine mm_T.seg (f' := (29, [some (.ref 19), some (.int x1), some (.int x2)], [(.int g250)])) (h' := (107, I, J, mm_rf rv sp rr w nw)) 1 rfl ?_
      cases e
      exact mm_T.ret rfl ⟨rfl, rfl⟩
set_option maxRecDepth 100000 in
set_option maxHeartbeats 4000000 in
theorem tX5_wideOf (d : Nat) (x1 : Int32) (r : Nat) (I : Nat → Nat → Int32) (J : Nat → Nat → Int64) (rv sp rr w nw : Nat) (hr : r = 3 ∨ r = 19) (out : Int32) (e : fX5_wideOf x1 r I = out) : mm_T none (d + 1) 77 (mm_ent 77 [(.ref r), (.int x1)]) (107, I, J, mm_rf rv sp rr w nw) (fun v h => v = some (.int out) ∧ h = (107, I, J, mm_rf rv sp rr w nw)) := by
  rcases hr with rfl | rfl
  · unfold fX5_wideOf at e
    refine mm_T.seg (f' := (4, [some (.ref 3), some (.int x1)], [(.ref (3 + 7))])) (h' := (107, I, J, mm_rf rv sp rr w nw)) 2 rfl ?_
    refine mm_T.seg (f' := (5, [some (.ref 3), some (.int x1)], [(.int x1), (.ref (3 + 7))])) (h' := (107, I, J, mm_rf rv sp rr w nw)) 1 rfl ?_
    refine mm_T.call (t := 204) (as := [(.ref (3 + 7)), (.int x1)]) (f' := (8, [some (.ref 3), some (.int x1)], [])) rfl (t_pick _ (3 + 7) 4 x1 I J (mm_rf rv sp rr w nw) rfl rfl) (fun v h hq => ?_)
    obtain ⟨rfl, rfl⟩ := hq
    cases e
    exact mm_T.ret rfl ⟨rfl, rfl⟩
  · unfold fX5_wideOf at e
    refine mm_T.seg (f' := (4, [some (.ref 19), some (.int x1)], [(.ref (19 + 7))])) (h' := (107, I, J, mm_rf rv sp rr w nw)) 2 rfl ?_
    refine mm_T.seg (f' := (5, [some (.ref 19), some (.int x1)], [(.int x1), (.ref (19 + 7))])) (h' := (107, I, J, mm_rf rv sp rr w nw)) 1 rfl ?_
    refine mm_T.call (t := 204) (as := [(.ref (19 + 7)), (.int x1)]) (f' := (8, [some (.ref 19), some (.int x1)], [])) rfl (t_pick _ (19 + 7) 4 x1 I J (mm_rf rv sp rr w nw) rfl rfl) (fun v h hq => ?_)
    obtain ⟨rfl, rfl⟩ := hq
    cases e
    exact mm_T.ret rfl ⟨rfl, rfl⟩
set_option maxRecDepth 100000 in
set_option maxHeartbeats 4000000 in
theorem tX5_startOf (d : Nat) (x1 : Int32) (r : Nat) (I : Nat → Nat → Int32) (J : Nat → Nat → Int64) (rv sp rr w nw : Nat) (hr : r = 3 ∨ r = 19) (out : Int32) (e : fX5_startOf x1 r I = out) : mm_T none (d + 1) 78 (mm_ent 78 [(.ref r), (.int x1)]) (107, I, J, mm_rf rv sp rr w nw) (fun v h => v = some (.int out) ∧ h = (107, I, J, mm_rf rv sp rr w nw)) := by
  rcases hr with rfl | rfl
  · unfold fX5_startOf at e
    refine mm_T.seg (f' := (4, [some (.ref 3), some (.int x1)], [(.ref (3 + 8))])) (h' := (107, I, J, mm_rf rv sp rr w nw)) 2 rfl ?_
    refine mm_T.seg (f' := (5, [some (.ref 3), some (.int x1)], [(.int x1), (.ref (3 + 8))])) (h' := (107, I, J, mm_rf rv sp rr w nw)) 1 rfl ?_
    refine mm_T.call (t := 204) (as := [(.ref (3 + 8)), (.int x1)]) (f' := (8, [some (.ref 3), some (.int x1)], [])) rfl (t_pick _ (3 + 8) 4 x1 I J (mm_rf rv sp rr w nw) rfl rfl) (fun v h hq => ?_)
    obtain ⟨rfl, rfl⟩ := hq
    cases e
    exact mm_T.ret rfl ⟨rfl, rfl⟩
  · unfold fX5_startOf at e
    refine mm_T.seg (f' := (4, [some (.ref 19), some (.int x1)], [(.ref (19 + 8))])) (h' := (107, I, J, mm_rf rv sp rr w nw)) 2 rfl ?_
    refine mm_T.seg (f' := (5, [some (.ref 19), some (.int x1)], [(.int x1), (.ref (19 + 8))])) (h' := (107, I, J, mm_rf rv sp rr w nw)) 1 rfl ?_
    refine mm_T.call (t := 204) (as := [(.ref (19 + 8)), (.int x1)]) (f' := (8, [some (.ref 19), some (.int x1)], [])) rfl (t_pick _ (19 + 8) 4 x1 I J (mm_rf rv sp rr w nw) rfl rfl) (fun v h hq => ?_)
    obtain ⟨rfl, rfl⟩ := hq
    cases e
    exact mm_T.ret rfl ⟨rfl, rfl⟩
set_option maxRecDepth 100000 in
set_option maxHeartbeats 4000000 in
theorem tX5_bearsOf (d : Nat) (x1 : Int32) (r : Nat) (I : Nat → Nat → Int32) (J : Nat → Nat → Int64) (rv sp rr w nw : Nat) (hr : r = 3 ∨ r = 19) (out : Int32) (e : fX5_bearsOf x1 r I = out) : mm_T none (d + 1) 79 (mm_ent 79 [(.ref r), (.int x1)]) (107, I, J, mm_rf rv sp rr w nw) (fun v h => v = some (.int out) ∧ h = (107, I, J, mm_rf rv sp rr w nw)) := by
  rcases hr with rfl | rfl
  · unfold fX5_bearsOf at e
    refine mm_T.seg (f' := (4, [some (.ref 3), some (.int x1)], [(.ref (3 + 9))])) (h' := (107, I, J, mm_rf rv sp rr w nw)) 2 rfl ?_
    refine mm_T.seg (f' := (5, [some (.ref 3), some (.int x1)], [(.int x1), (.ref (3 + 9))])) (h' := (107, I, J, mm_rf rv sp rr w nw)) 1 rfl ?_
    refine mm_T.call (t := 204) (as := [(.ref (3 + 9)), (.int x1)]) (f' := (8, [some (.ref 3), some (.int x1)], [])) rfl (t_pick _ (3 + 9) 4 x1 I J (mm_rf rv sp rr w nw) rfl rfl) (fun v h hq => ?_)
    obtain ⟨rfl, rfl⟩ := hq
    cases e
    exact mm_T.ret rfl ⟨rfl, rfl⟩
  · unfold fX5_bearsOf at e
    refine mm_T.seg (f' := (4, [some (.ref 19), some (.int x1)], [(.ref (19 + 9))])) (h' := (107, I, J, mm_rf rv sp rr w nw)) 2 rfl ?_
    refine mm_T.seg (f' := (5, [some (.ref 19), some (.int x1)], [(.int x1), (.ref (19 + 9))])) (h' := (107, I, J, mm_rf rv sp rr w nw)) 1 rfl ?_
    refine mm_T.call (t := 204) (as := [(.ref (19 + 9)), (.int x1)]) (f' := (8, [some (.ref 19), some (.int x1)], [])) rfl (t_pick _ (19 + 9) 4 x1 I J (mm_rf rv sp rr w nw) rfl rfl) (fun v h hq => ?_)
    obtain ⟨rfl, rfl⟩ := hq
    cases e
    exact mm_T.ret rfl ⟨rfl, rfl⟩
set_option maxRecDepth 100000 in
set_option maxHeartbeats 4000000 in
theorem tX5_loadWide (d : Nat) (x1 : Int32) (r : Nat) (I : Nat → Nat → Int32) (J : Nat → Nat → Int64) (rv sp rr w nw : Nat) (hr : r = 3 ∨ r = 19) (out : Int32) (e : fX5_loadWide x1 r I = out) : mm_T none (d + 1) 80 (mm_ent 80 [(.ref r), (.int x1)]) (107, I, J, mm_rf rv sp rr w nw) (fun v h => v = some (.int out) ∧ h = (107, I, J, mm_rf rv sp rr w nw)) := by
  rcases hr with rfl | rfl
  · unfold fX5_loadWide at e
    refine mm_T.seg (f' := (4, [some (.ref 3), some (.int x1)], [(.ref (3 + 11))])) (h' := (107, I, J, mm_rf rv sp rr w nw)) 2 rfl ?_
    refine mm_T.seg (f' := (5, [some (.ref 3), some (.int x1)], [(.int x1), (.ref (3 + 11))])) (h' := (107, I, J, mm_rf rv sp rr w nw)) 1 rfl ?_
    refine mm_T.call (t := 204) (as := [(.ref (3 + 11)), (.int x1)]) (f' := (8, [some (.ref 3), some (.int x1)], [])) rfl (t_pick _ (3 + 11) 7 x1 I J (mm_rf rv sp rr w nw) rfl rfl) (fun v h hq => ?_)
    obtain ⟨rfl, rfl⟩ := hq
    cases e
    exact mm_T.ret rfl ⟨rfl, rfl⟩
  · unfold fX5_loadWide at e
    refine mm_T.seg (f' := (4, [some (.ref 19), some (.int x1)], [(.ref (19 + 11))])) (h' := (107, I, J, mm_rf rv sp rr w nw)) 2 rfl ?_
    refine mm_T.seg (f' := (5, [some (.ref 19), some (.int x1)], [(.int x1), (.ref (19 + 11))])) (h' := (107, I, J, mm_rf rv sp rr w nw)) 1 rfl ?_
    refine mm_T.call (t := 204) (as := [(.ref (19 + 11)), (.int x1)]) (f' := (8, [some (.ref 19), some (.int x1)], [])) rfl (t_pick _ (19 + 11) 7 x1 I J (mm_rf rv sp rr w nw) rfl rfl) (fun v h hq => ?_)
    obtain ⟨rfl, rfl⟩ := hq
    cases e
    exact mm_T.ret rfl ⟨rfl, rfl⟩
set_option maxRecDepth 100000 in
set_option maxHeartbeats 4000000 in
theorem tX5_warmth (d n : Nat) (x1 : Int32) (x2 : Int32) (x3 : Int32) (x4 : Int32) (x5 : Int32) (x6 : Int32) (r : Nat) (I : Nat → Nat → Int32) (J : Nat → Nat → Int64) (rv sp rr w nw : Nat) (hr : r = 3 ∨ r = 19) (out : Int32 × (Nat → Nat → Int32)) (e : fX5_warmth n x1 x2 x3 x4 x5 x6 r I = some out) : mm_T none (d + 2) 82 (mm_ent 82 [(.ref r), (.int x1), (.int x2), (.int x3), (.int x4), (.int x5), (.int x6)]) (107, I, J, mm_rf rv sp rr w nw) (fun v h => v = some (.int out.1) ∧ h = (107, out.2, J, mm_rf rv sp rr w nw)) := by
  rcases hr with rfl | rfl
  · unfold fX5_warmth at e
    refine mm_T.seg (f' := (4, [some (.ref 3), some (.int x1), some (.int x2), some (.int x3), some (.int x4), some (.int x5), some (.int x6), none], [(.ref (3 + 1))])) (h' := (107, I, J, mm_rf rv sp rr w nw)) 2 rfl ?_
    obtain ⟨g251, hg251⟩ : ∃ z, fX0_isTold (3 + 1) I = z := ⟨_, rfl⟩
    try rw [hg251] at e
    refine mm_T.call (t := 3) (as := [(.ref (3 + 1))]) (f' := (7, [some (.ref 3), some (.int x1), some (.int x2), some (.int x3), some (.int x4), some (.int x5), some (.int x6), none], [])) rfl (tX0_isTold (d + 1) (3 + 1) I J rv sp rr w nw (Or.inl rfl) g251 hg251) (fun v h hq => ?_)
    obtain ⟨rfl, rfl⟩ := hq
    refine mm_T.br (c := g251 = 0) (a := ((10, [some (.ref 3), some (.int x1), some (.int x2), some (.int x3), some (.int x4), some (.int x5), some (.int x6), none], []), (107, I, J, mm_rf rv sp rr w nw))) (b := ((12, [some (.ref 3), some (.int x1), some (.int x2), some (.int x3), some (.int x4), some (.int x5), some (.int x6), none], []), (107, I, J, mm_rf rv sp rr w nw))) rfl (fun h1952 => ?_) (fun h1952 => ?_)
    · rw [if_pos h1952] at e
      refine mm_T.seg (f' := (11, [some (.ref 3), some (.int x1), some (.int x2), some (.int x3), some (.int x4), some (.int x5), some (.int x6), none], [(.int 1)])) (h' := (107, I, J, mm_rf rv sp rr w nw)) 1 rfl ?_
      cases e
      exact mm_T.ret rfl ⟨rfl, rfl⟩
    · rw [if_neg h1952] at e
      refine mm_T.seg (f' := (16, [some (.ref 3), some (.int x1), some (.int x2), some (.int x3), some (.int x4), some (.int x5), some (.int x6), none], [(.ref (3 + 1))])) (h' := (107, I, J, mm_rf rv sp rr w nw)) 2 rfl ?_
      refine mm_T.seg (f' := (22, [some (.ref 3), some (.int x1), some (.int x2), some (.int x3), some (.int x4), some (.int x5), some (.int x6), none], [(.int x1), (.ref 3), (.int x4), (.int x3), (.int x2), (.ref (3 + 1))])) (h' := (107, I, J, mm_rf rv sp rr w nw)) 5 rfl ?_
      obtain ⟨g252, hg252⟩ : ∃ z, fX5_wideOf x1 3 I = z := ⟨_, rfl⟩
      try rw [hg252] at e
      refine mm_T.call (t := 77) (as := [(.ref 3), (.int x1)]) (f' := (25, [some (.ref 3), some (.int x1), some (.int x2), some (.int x3), some (.int x4), some (.int x5), some (.int x6), none], [(.int x4), (.int x3), (.int x2), (.ref (3 + 1))])) rfl (tX5_wideOf (d + 0) x1 3 I J rv sp rr w nw (Or.inl rfl) g252 hg252) (fun v h hq => ?_)
      obtain ⟨rfl, rfl⟩ := hq
      refine mm_T.seg (f' := (29, [some (.ref 3), some (.int x1), some (.int x2), some (.int x3), some (.int x4), some (.int x5), some (.int x6), none], [(.int x6), (.int x5), (.int g252), (.int x4), (.int x3), (.int x2), (.ref (3 + 1))])) (h' := (107, I, J, mm_rf rv sp rr w nw)) 2 rfl ?_
      obtain ⟨o1953, eo1953, e⟩ := mm_bind e
      refine mm_T.call (t := 4) (as := [(.ref (3 + 1)), (.int x2), (.int x3), (.int x4), (.int g252), (.int x5), (.int x6)]) (f' := (32, [some (.ref 3), some (.int x1), some (.int x2), some (.int x3), some (.int x4), some (.int x5), some (.int x6), none], [])) rfl (tX0_value (d + 0) n x2 x3 x4 g252 x5 x6 (3 + 1) I J rv sp rr w nw (Or.inl rfl) o1953 eo1953) (fun v h hq => ?_)
      obtain ⟨rfl, rfl⟩ := hq
      refine mm_T.seg (f' := (39, [some (.ref 3), some (.int x1), some (.int x2), some (.int x3), some (.int x4), some (.int x5), some (.int x6), some (.int o1953.1)], [(.int o1953.1), (.int 99), (.int 0)])) (h' := (107, o1953.2, J, mm_rf rv sp rr w nw)) 4 rfl ?_
      obtain ⟨g253, hg253⟩ : ∃ z, fJ9_min 99 o1953.1 = z := ⟨_, rfl⟩
      try rw [hg253] at e
      refine mm_T.call (t := 348) (as := [(.int 99), (.int o1953.1)]) (f' := (42, [some (.ref 3), some (.int x1), some (.int x2), some (.int x3), some (.int x4), some (.int x5), some (.int x6), some (.int o1953.1)], [(.int 0)])) rfl (tJ9_min (d + 1) 99 o1953.1 o1953.2 J rv sp rr w nw g253 hg253) (fun v h hq => ?_)
      obtain ⟨rfl, rfl⟩ := hq
      obtain ⟨g254, hg254⟩ : ∃ z, fJ9_max 0 g253 = z := ⟨_, rfl⟩
      try rw [hg254] at e
      refine mm_T.call (t := 347) (as := [(.int 0), (.int g253)]) (f' := (45, [some (.ref 3), some (.int x1), some (.int x2), some (.int x3), some (.int x4), some (.int x5), some (.int x6), some (.int o1953.1)], [])) rfl (tJ9_max (d + 1) 0 g253 o1953.2 J rv sp rr w nw g254 hg254) (fun v h hq => ?_)
      obtain ⟨rfl, rfl⟩ := hq
      cases e
      exact mm_T.ret rfl ⟨rfl, rfl⟩
  · unfold fX5_warmth at e
    refine mm_T.seg (f' := (4, [some (.ref 19), some (.int x1), some (.int x2), some (.int x3), some (.int x4), some (.int x5), some (.int x6), none], [(.ref (19 + 1))])) (h' := (107, I, J, mm_rf rv sp rr w nw)) 2 rfl ?_
    obtain ⟨g251, hg251⟩ : ∃ z, fX0_isTold (19 + 1) I = z := ⟨_, rfl⟩
    try rw [hg251] at e
    refine mm_T.call (t := 3) (as := [(.ref (19 + 1))]) (f' := (7, [some (.ref 19), some (.int x1), some (.int x2), some (.int x3), some (.int x4), some (.int x5), some (.int x6), none], [])) rfl (tX0_isTold (d + 1) (19 + 1) I J rv sp rr w nw (Or.inr rfl) g251 hg251) (fun v h hq => ?_)
    obtain ⟨rfl, rfl⟩ := hq
    refine mm_T.br (c := g251 = 0) (a := ((10, [some (.ref 19), some (.int x1), some (.int x2), some (.int x3), some (.int x4), some (.int x5), some (.int x6), none], []), (107, I, J, mm_rf rv sp rr w nw))) (b := ((12, [some (.ref 19), some (.int x1), some (.int x2), some (.int x3), some (.int x4), some (.int x5), some (.int x6), none], []), (107, I, J, mm_rf rv sp rr w nw))) rfl (fun h1952 => ?_) (fun h1952 => ?_)
    · rw [if_pos h1952] at e
      refine mm_T.seg (f' := (11, [some (.ref 19), some (.int x1), some (.int x2), some (.int x3), some (.int x4), some (.int x5), some (.int x6), none], [(.int 1)])) (h' := (107, I, J, mm_rf rv sp rr w nw)) 1 rfl ?_
      cases e
      exact mm_T.ret rfl ⟨rfl, rfl⟩
    · rw [if_neg h1952] at e
      refine mm_T.seg (f' := (16, [some (.ref 19), some (.int x1), some (.int x2), some (.int x3), some (.int x4), some (.int x5), some (.int x6), none], [(.ref (19 + 1))])) (h' := (107, I, J, mm_rf rv sp rr w nw)) 2 rfl ?_
      refine mm_T.seg (f' := (22, [some (.ref 19), some (.int x1), some (.int x2), some (.int x3), some (.int x4), some (.int x5), some (.int x6), none], [(.int x1), (.ref 19), (.int x4), (.int x3), (.int x2), (.ref (19 + 1))])) (h' := (107, I, J, mm_rf rv sp rr w nw)) 5 rfl ?_
      obtain ⟨g252, hg252⟩ : ∃ z, fX5_wideOf x1 19 I = z := ⟨_, rfl⟩
      try rw [hg252] at e
      refine mm_T.call (t := 77) (as := [(.ref 19), (.int x1)]) (f' := (25, [some (.ref 19), some (.int x1), some (.int x2), some (.int x3), some (.int x4), some (.int x5), some (.int x6), none], [(.int x4), (.int x3), (.int x2), (.ref (19 + 1))])) rfl (tX5_wideOf (d + 0) x1 19 I J rv sp rr w nw (Or.inr rfl) g252 hg252) (fun v h hq => ?_)
      obtain ⟨rfl, rfl⟩ := hq
      refine mm_T.seg (f' := (29, [some (.ref 19), some (.int x1), some (.int x2), some (.int x3), some (.int x4), some (.int x5), some (.int x6), none], [(.int x6), (.int x5), (.int g252), (.int x4), (.int x3), (.int x2), (.ref (19 + 1))])) (h' := (107, I, J, mm_rf rv sp rr w nw)) 2 rfl ?_
      obtain ⟨o1953, eo1953, e⟩ := mm_bind e
      refine mm_T.call (t := 4) (as := [(.ref (19 + 1)), (.int x2), (.int x3), (.int x4), (.int g252), (.int x5), (.int x6)]) (f' := (32, [some (.ref 19), some (.int x1), some (.int x2), some (.int x3), some (.int x4), some (.int x5), some (.int x6), none], [])) rfl (tX0_value (d + 0) n x2 x3 x4 g252 x5 x6 (19 + 1) I J rv sp rr w nw (Or.inr rfl) o1953 eo1953) (fun v h hq => ?_)
      obtain ⟨rfl, rfl⟩ := hq
      refine mm_T.seg (f' := (39, [some (.ref 19), some (.int x1), some (.int x2), some (.int x3), some (.int x4), some (.int x5), some (.int x6), some (.int o1953.1)], [(.int o1953.1), (.int 99), (.int 0)])) (h' := (107, o1953.2, J, mm_rf rv sp rr w nw)) 4 rfl ?_
      obtain ⟨g253, hg253⟩ : ∃ z, fJ9_min 99 o1953.1 = z := ⟨_, rfl⟩
      try rw [hg253] at e
      refine mm_T.call (t := 348) (as := [(.int 99), (.int o1953.1)]) (f' := (42, [some (.ref 19), some (.int x1), some (.int x2), some (.int x3), some (.int x4), some (.int x5), some (.int x6), some (.int o1953.1)], [(.int 0)])) rfl (tJ9_min (d + 1) 99 o1953.1 o1953.2 J rv sp rr w nw g253 hg253) (fun v h hq => ?_)
      obtain ⟨rfl, rfl⟩ := hq
      obtain ⟨g254, hg254⟩ : ∃ z, fJ9_max 0 g253 = z := ⟨_, rfl⟩
      try rw [hg254] at e
      refine mm_T.call (t := 347) (as := [(.int 0), (.int g253)]) (f' := (45, [some (.ref 19), some (.int x1), some (.int x2), some (.int x3), some (.int x4), some (.int x5), some (.int x6), some (.int o1953.1)], [])) rfl (tJ9_max (d + 1) 0 g253 o1953.2 J rv sp rr w nw g254 hg254) (fun v h hq => ?_)
      obtain ⟨rfl, rfl⟩ := hq
      cases e
      exact mm_T.ret rfl ⟨rfl, rfl⟩
set_option maxRecDepth 100000 in
set_option maxHeartbeats 4000000 in
theorem tlX6_unsteered_L27 (d : Nat) (Q : Option Value → mm_H → Prop) : ∀ (n : Nat) (y3 : Int32) (y4 : Int32) (I : Nat → Nat → Int32) (J : Nat → Nat → Int64) (rv sp rr w nw : Nat), (rv = 3 ∨ rv = 19) → ∀ (out : (Int32 ⊕ (Int32))), fX6_unsteered_L27 n y3 y4 I rv = some out → (∀ (r : Int32), out = .inl r → Q (some (.int r)) (107, I, J, mm_rf rv sp rr w nw)) → (∀ (y : Int32), out = .inr y → mm_T none (d + 3) 86 (66, [none, none, none, some (.int y), none], []) (107, I, J, mm_rf rv sp rr w nw) Q) → mm_T none (d + 3) 86 (27, [none, none, some (.ref rv), some (.int y3), some (.int y4)], []) (107, I, J, mm_rf rv sp rr w nw) Q := by
  intro n
  induction n with
  | zero =>
    intro y3 y4 I J rv sp rr w nw hrv out e kr ke
    rw [fX6_unsteered_L27] at e; cases e
  | succ n ih =>
    intro y3 y4 I J rv sp rr w nw hrv out e kr ke
    rcases hrv with rfl | rfl
    · rw [fX6_unsteered_L27] at e
      refine mm_T.seg (f' := (33, [none, none, some (.ref 3), some (.int y3), some (.int y4)], [(.int (I 3 1)), (.int y4)])) (h' := (107, I, J, mm_rf 3 sp rr w nw)) 3 rfl ?_
      refine mm_T.br (c := y4 < (I 3 1)) (a := ((36, [none, none, some (.ref 3), some (.int y3), some (.int y4)], []), (107, I, J, mm_rf 3 sp rr w nw))) (b := ((66, [none, none, some (.ref 3), some (.int y3), some (.int y4)], []), (107, I, J, mm_rf 3 sp rr w nw))) rfl (fun h1956 => ?_) (fun h1956 => ?_)
      · rw [if_pos h1956] at e
        refine mm_T.seg (f' := (42, [none, none, some (.ref 3), some (.int y3), some (.int y4)], [(.int 1), (.int 0), (.int y4), (.int y3), (.ref 3)])) (h' := (107, I, J, mm_rf 3 sp rr w nw)) 5 rfl ?_
        obtain ⟨g259, hg259⟩ : ∃ z, fX5_leadsTo y3 y4 0 1 3 I = z := ⟨_, rfl⟩
        try rw [hg259] at e
        refine mm_T.call (t := 81) (as := [(.ref 3), (.int y3), (.int y4), (.int 0), (.int 1)]) (f' := (45, [none, none, some (.ref 3), some (.int y3), some (.int y4)], [])) rfl (tX5_leadsTo (d + 1) y3 y4 0 1 3 I J 3 sp rr w nw (Or.inl rfl) g259 hg259) (fun v h hq => ?_)
        obtain ⟨rfl, rfl⟩ := hq
        refine mm_T.seg (f' := (52, [none, none, some (.ref 3), some (.int g259), some (.int y4)], [(.int (y4 + 1)), (.int g259), (.ref 3)])) (h' := (107, I, J, mm_rf 3 sp rr w nw)) 6 rfl ?_
        obtain ⟨g260, hg260⟩ : ∃ z, fX5_ironAt g259 (y4 + 1) 3 I = z := ⟨_, rfl⟩
        try rw [hg260] at e
        refine mm_T.call (t := 69) (as := [(.ref 3), (.int g259), (.int (y4 + 1))]) (f' := (55, [none, none, some (.ref 3), some (.int g259), some (.int y4)], [])) rfl (tX5_ironAt (d + 1) g259 (y4 + 1) 3 I J 3 sp rr w nw (Or.inl rfl) g260 hg260) (fun v h hq => ?_)
        obtain ⟨rfl, rfl⟩ := hq
        refine mm_T.br (c := g260 = 0) (a := ((60, [none, none, some (.ref 3), some (.int g259), some (.int y4)], []), (107, I, J, mm_rf 3 sp rr w nw))) (b := ((58, [none, none, some (.ref 3), some (.int g259), some (.int y4)], []), (107, I, J, mm_rf 3 sp rr w nw))) rfl (fun h1957 => ?_) (fun h1957 => ?_)
        · rw [if_pos h1957] at e
          refine mm_T.seg (f' := (27, [none, none, some (.ref 3), some (.int g259), some (.int (y4 + 1))], [])) (h' := (107, I, J, mm_rf 3 sp rr w nw)) 2 rfl ?_
          refine mm_T.mask [false, false, true, true, true] ?_
          exact ih g259 (y4 + 1) I J 3 sp rr w nw (Or.inl rfl) out e kr ke
        · rw [if_neg h1957] at e
          refine mm_T.seg (f' := (59, [none, none, some (.ref 3), some (.int g259), some (.int y4)], [(.int (-1))])) (h' := (107, I, J, mm_rf 3 sp rr w nw)) 1 rfl ?_
          cases e
          exact mm_T.ret rfl (kr _ rfl)
      · rw [if_neg h1956] at e
        cases e
        refine mm_T.mask [false, false, false, true, false] ?_
        exact ke _ rfl
    · rw [fX6_unsteered_L27] at e
      refine mm_T.seg (f' := (33, [none, none, some (.ref 19), some (.int y3), some (.int y4)], [(.int (I 19 1)), (.int y4)])) (h' := (107, I, J, mm_rf 19 sp rr w nw)) 3 rfl ?_
      refine mm_T.br (c := y4 < (I 19 1)) (a := ((36, [none, none, some (.ref 19), some (.int y3), some (.int y4)], []), (107, I, J, mm_rf 19 sp rr w nw))) (b := ((66, [none, none, some (.ref 19), some (.int y3), some (.int y4)], []), (107, I, J, mm_rf 19 sp rr w nw))) rfl (fun h1956 => ?_) (fun h1956 => ?_)
      · rw [if_pos h1956] at e
        refine mm_T.seg (f' := (42, [none, none, some (.ref 19), some (.int y3), some (.int y4)], [(.int 1), (.int 0), (.int y4), (.int y3), (.ref 19)])) (h' := (107, I, J, mm_rf 19 sp rr w nw)) 5 rfl ?_
        obtain ⟨g259, hg259⟩ : ∃ z, fX5_leadsTo y3 y4 0 1 19 I = z := ⟨_, rfl⟩
        try rw [hg259] at e
        refine mm_T.call (t := 81) (as := [(.ref 19), (.int y3), (.int y4), (.int 0), (.int 1)]) (f' := (45, [none, none, some (.ref 19), some (.int y3), some (.int y4)], [])) rfl (tX5_leadsTo (d + 1) y3 y4 0 1 19 I J 19 sp rr w nw (Or.inr rfl) g259 hg259) (fun v h hq => ?_)
        obtain ⟨rfl, rfl⟩ := hq
        refine mm_T.seg (f' := (52, [none, none, some (.ref 19), some (.int g259), some (.int y4)], [(.int (y4 + 1)), (.int g259), (.ref 19)])) (h' := (107, I, J, mm_rf 19 sp rr w nw)) 6 rfl ?_
        obtain ⟨g260, hg260⟩ : ∃ z, fX5_ironAt g259 (y4 + 1) 19 I = z := ⟨_, rfl⟩
        try rw [hg260] at e
        refine mm_T.call (t := 69) (as := [(.ref 19), (.int g259), (.int (y4 + 1))]) (f' := (55, [none, none, some (.ref 19), some (.int g259), some (.int y4)], [])) rfl (tX5_ironAt (d + 1) g259 (y4 + 1) 19 I J 19 sp rr w nw (Or.inr rfl) g260 hg260) (fun v h hq => ?_)
        obtain ⟨rfl, rfl⟩ := hq
        refine mm_T.br (c := g260 = 0) (a := ((60, [none, none, some (.ref 19), some (.int g259), some (.int y4)], []), (107, I, J, mm_rf 19 sp rr w nw))) (b := ((58, [none, none, some (.ref 19), some (.int g259), some (.int y4)], []), (107, I, J, mm_rf 19 sp rr w nw))) rfl (fun h1957 => ?_) (fun h1957 => ?_)
        · rw [if_pos h1957] at e
          refine mm_T.seg (f' := (27, [none, none, some (.ref 19), some (.int g259), some (.int (y4 + 1))], [])) (h' := (107, I, J, mm_rf 19 sp rr w nw)) 2 rfl ?_
          refine mm_T.mask [false, false, true, true, true] ?_
          exact ih g259 (y4 + 1) I J 19 sp rr w nw (Or.inr rfl) out e kr ke
        · rw [if_neg h1957] at e
          refine mm_T.seg (f' := (59, [none, none, some (.ref 19), some (.int g259), some (.int y4)], [(.int (-1))])) (h' := (107, I, J, mm_rf 19 sp rr w nw)) 1 rfl ?_
          cases e
          exact mm_T.ret rfl (kr _ rfl)
      · rw [if_neg h1956] at e
        cases e
        refine mm_T.mask [false, false, false, true, false] ?_
        exact ke _ rfl
set_option maxRecDepth 100000 in
set_option maxHeartbeats 4000000 in
theorem tX6_unsteered (d n : Nat) (x1 : Int32) (I : Nat → Nat → Int32) (J : Nat → Nat → Int64) (rv sp rr w nw : Nat) (hrv : rv = 3 ∨ rv = 19) (out : Int32) (e : fX6_unsteered n x1 I rv = some out) : mm_T none (d + 3) 86 (mm_ent 86 [(.ref 37), (.int x1)]) (107, I, J, mm_rf rv sp rr w nw) (fun v h => v = some (.int out) ∧ h = (107, I, J, mm_rf rv sp rr w nw)) := by
  rcases hrv with rfl | rfl
  · unfold fX6_unsteered at e
    refine mm_T.seg (f' := (4, [some (.ref 37), some (.int x1), none, none, none], [(.ref 18)])) (h' := (107, I, J, mm_rf 3 sp rr w nw)) 2 rfl ?_
    refine mm_T.seg (f' := (12, [some (.ref 37), some (.int x1), some (.ref 3), none, none], [(.ref 18)])) (h' := (107, I, J, mm_rf 3 sp rr w nw)) 4 rfl ?_
    refine mm_T.seg (f' := (13, [some (.ref 37), some (.int x1), some (.ref 3), none, none], [(.int x1), (.ref 18)])) (h' := (107, I, J, mm_rf 3 sp rr w nw)) 1 rfl ?_
    obtain ⟨g255, hg255⟩ : ∃ z, fX7_columnOf x1 I = z := ⟨_, rfl⟩
    try rw [hg255] at e
    refine mm_T.call (t := 105) (as := [(.ref 18), (.int x1)]) (f' := (16, [some (.ref 37), some (.int x1), some (.ref 3), none, none], [])) rfl (tX7_columnOf (d + 0) x1 I J 3 sp rr w nw g255 hg255) (fun v h hq => ?_)
    obtain ⟨rfl, rfl⟩ := hq
    refine mm_T.seg (f' := (21, [some (.ref 37), some (.int x1), some (.ref 3), some (.int g255), none], [(.ref 18)])) (h' := (107, I, J, mm_rf 3 sp rr w nw)) 3 rfl ?_
    refine mm_T.seg (f' := (22, [some (.ref 37), some (.int x1), some (.ref 3), some (.int g255), none], [(.int x1), (.ref 18)])) (h' := (107, I, J, mm_rf 3 sp rr w nw)) 1 rfl ?_
    obtain ⟨g256, hg256⟩ : ∃ z, fX7_rowOf x1 I = z := ⟨_, rfl⟩
    try rw [hg256] at e
    refine mm_T.call (t := 106) (as := [(.ref 18), (.int x1)]) (f' := (25, [some (.ref 37), some (.int x1), some (.ref 3), some (.int g255), none], [])) rfl (tX7_rowOf (d + 0) x1 I J 3 sp rr w nw g256 hg256) (fun v h hq => ?_)
    obtain ⟨rfl, rfl⟩ := hq
    refine mm_T.seg (f' := (27, [some (.ref 37), some (.int x1), some (.ref 3), some (.int g255), some (.int g256)], [])) (h' := (107, I, J, mm_rf 3 sp rr w nw)) 1 rfl ?_
    refine mm_T.mask [false, false, true, true, true] ?_
    obtain ⟨o1958, eo1958, e⟩ := mm_bind e
    rcases o1958 with va1959 | vb1959
    · cases e
      refine tlX6_unsteered_L27 d _ n g255 g256 I J 3 sp rr w nw (Or.inl rfl) _ eo1958 (fun z hz => ?_) (fun z hz => ?_)
      · cases hz; exact ⟨rfl, rfl⟩
      · cases hz
    · refine tlX6_unsteered_L27 d _ n g255 g256 I J 3 sp rr w nw (Or.inl rfl) (.inr vb1959) eo1958 (fun z hz => ?_) (fun z hz => ?_)
      · cases hz
      · cases hz
        refine mm_T.seg (f' := (67, [none, none, none, some (.int vb1959), none], [(.int vb1959)])) (h' := (107, I, J, mm_rf 3 sp rr w nw)) 1 rfl ?_
        cases e
        exact mm_T.ret rfl ⟨rfl, rfl⟩
  · unfold fX6_unsteered at e
    refine mm_T.seg (f' := (4, [some (.ref 37), some (.int x1), none, none, none], [(.ref 18)])) (h' := (107, I, J, mm_rf 19 sp rr w nw)) 2 rfl ?_
    refine mm_T.seg (f' := (12, [some (.ref 37), some (.int x1), some (.ref 19), none, none], [(.ref 18)])) (h' := (107, I, J, mm_rf 19 sp rr w nw)) 4 rfl ?_
    refine mm_T.seg (f' := (13, [some (.ref 37), some (.int x1), some (.ref 19), none, none], [(.int x1), (.ref 18)])) (h' := (107, I, J, mm_rf 19 sp rr w nw)) 1 rfl ?_
    obtain ⟨g255, hg255⟩ : ∃ z, fX7_columnOf x1 I = z := ⟨_, rfl⟩
    try rw [hg255] at e
    refine mm_T.call (t := 105) (as := [(.ref 18), (.int x1)]) (f' := (16, [some (.ref 37), some (.int x1), some (.ref 19), none, none], [])) rfl (tX7_columnOf (d + 0) x1 I J 19 sp rr w nw g255 hg255) (fun v h hq => ?_)
    obtain ⟨rfl, rfl⟩ := hq
    refine mm_T.seg (f' := (21, [some (.ref 37), some (.int x1), some (.ref 19), some (.int g255), none], [(.ref 18)])) (h' := (107, I, J, mm_rf 19 sp rr w nw)) 3 rfl ?_
    refine mm_T.seg (f' := (22, [some (.ref 37), some (.int x1), some (.ref 19), some (.int g255), none], [(.int x1), (.ref 18)])) (h' := (107, I, J, mm_rf 19 sp rr w nw)) 1 rfl ?_
    obtain ⟨g256, hg256⟩ : ∃ z, fX7_rowOf x1 I = z := ⟨_, rfl⟩
    try rw [hg256] at e
    refine mm_T.call (t := 106) (as := [(.ref 18), (.int x1)]) (f' := (25, [some (.ref 37), some (.int x1), some (.ref 19), some (.int g255), none], [])) rfl (tX7_rowOf (d + 0) x1 I J 19 sp rr w nw g256 hg256) (fun v h hq => ?_)
    obtain ⟨rfl, rfl⟩ := hq
    refine mm_T.seg (f' := (27, [some (.ref 37), some (.int x1), some (.ref 19), some (.int g255), some (.int g256)], [])) (h' := (107, I, J, mm_rf 19 sp rr w nw)) 1 rfl ?_
    refine mm_T.mask [false, false, true, true, true] ?_
    obtain ⟨o1958, eo1958, e⟩ := mm_bind e
    rcases o1958 with va1959 | vb1959
    · cases e
      refine tlX6_unsteered_L27 d _ n g255 g256 I J 19 sp rr w nw (Or.inr rfl) _ eo1958 (fun z hz => ?_) (fun z hz => ?_)
      · cases hz; exact ⟨rfl, rfl⟩
      · cases hz
    · refine tlX6_unsteered_L27 d _ n g255 g256 I J 19 sp rr w nw (Or.inr rfl) (.inr vb1959) eo1958 (fun z hz => ?_) (fun z hz => ?_)
      · cases hz
      · cases hz
        refine mm_T.seg (f' := (67, [none, none, none, some (.int vb1959), none], [(.int vb1959)])) (h' := (107, I, J, mm_rf 19 sp rr w nw)) 1 rfl ?_
        cases e
        exact mm_T.ret rfl ⟨rfl, rfl⟩
set_option maxRecDepth 100000 in
set_option maxHeartbeats 4000000 in
theorem tX6_cell (d : Nat) (x0 : Int32) (x1 : Int32) (I : Nat → Nat → Int32) (J : Nat → Nat → Int64) (rv sp rr w nw : Nat) (out : Int32) (e : fX6_cell x0 x1 = out) : mm_T none (d + 0) 87 (mm_ent 87 [(.int x0), (.int x1)]) (107, I, J, mm_rf rv sp rr w nw) (fun v h => v = some (.int out) ∧ h = (107, I, J, mm_rf rv sp rr w nw)) := by
  unfold fX6_cell at e
  refine mm_T.seg (f' := (6, [some (.int x0), some (.int x1)], [(.int ((x1 * 8) + x0))])) (h' := (107, I, J, mm_rf rv sp rr w nw)) 5 rfl ?_
  cases e
  exact mm_T.ret rfl ⟨rfl, rfl⟩
set_option maxRecDepth 100000 in
set_option maxHeartbeats 4000000 in
theorem tlX6_waysFrom_L5 (d : Nat) (Q : Option Value → mm_H → Prop) : ∀ (n : Nat) (y1 : Int32) (y2 : Int32) (y3 : Int32) (y4 : Int32) (I : Nat → Nat → Int32) (J : Nat → Nat → Int64) (rv sp rr w nw : Nat), (rv = 3 ∨ rv = 19) → ∀ (out : Int32), fX6_waysFrom_L5 n y1 y2 y3 y4 I rv = some out → mm_T none (d + 2) 89 (70, [none, none, none, some (.int out), none, none], []) (107, I, J, mm_rf rv sp rr w nw) Q → mm_T none (d + 2) 89 (5, [some (.ref 37), some (.int y1), some (.int y2), some (.int y3), some (.int y4), none], []) (107, I, J, mm_rf rv sp rr w nw) Q := by
  intro n
  induction n with
  | zero =>
    intro y1 y2 y3 y4 I J rv sp rr w nw hrv out e k
    rw [fX6_waysFrom_L5] at e; cases e
  | succ n ih =>
    intro y1 y2 y3 y4 I J rv sp rr w nw hrv out e k
    rcases hrv with rfl | rfl
    · rw [fX6_waysFrom_L5] at e
      refine mm_T.seg (f' := (8, [some (.ref 37), some (.int y1), some (.int y2), some (.int y3), some (.int y4), none], [(.int 1), (.int y4)])) (h' := (107, I, J, mm_rf 3 sp rr w nw)) 2 rfl ?_
      refine mm_T.br (c := 1 < y4) (a := ((70, [some (.ref 37), some (.int y1), some (.int y2), some (.int y3), some (.int y4), none], []), (107, I, J, mm_rf 3 sp rr w nw))) (b := ((11, [some (.ref 37), some (.int y1), some (.int y2), some (.int y3), some (.int y4), none], []), (107, I, J, mm_rf 3 sp rr w nw))) rfl (fun h1966 => ?_) (fun h1966 => ?_)
      · rw [if_pos h1966] at e
        cases e
        refine mm_T.mask [false, false, false, true, false, false] ?_
        exact k
      · rw [if_neg h1966] at e
        refine mm_T.seg (f' := (15, [some (.ref 37), some (.int y1), some (.int y2), some (.int y3), some (.int y4), none], [(.ref 18)])) (h' := (107, I, J, mm_rf 3 sp rr w nw)) 2 rfl ?_
        refine mm_T.seg (f' := (23, [some (.ref 37), some (.int y1), some (.int y2), some (.int y3), some (.int y4), none], [(.int 1), (.int y4), (.int y2), (.int y1), (.ref 3)])) (h' := (107, I, J, mm_rf 3 sp rr w nw)) 5 rfl ?_
        obtain ⟨g267, hg267⟩ : ∃ z, fX5_leadsTo y1 y2 y4 1 3 I = z := ⟨_, rfl⟩
        try rw [hg267] at e
        refine mm_T.call (t := 81) (as := [(.ref 3), (.int y1), (.int y2), (.int y4), (.int 1)]) (f' := (26, [some (.ref 37), some (.int y1), some (.int y2), some (.int y3), some (.int y4), none], [])) rfl (tX5_leadsTo (d + 0) y1 y2 y4 1 3 I J 3 sp rr w nw (Or.inl rfl) g267 hg267) (fun v h hq => ?_)
        obtain ⟨rfl, rfl⟩ := hq
        refine mm_T.seg (f' := (32, [some (.ref 37), some (.int y1), some (.int y2), some (.int y3), some (.int y4), some (.int g267)], [(.ref 18)])) (h' := (107, I, J, mm_rf 3 sp rr w nw)) 3 rfl ?_
        refine mm_T.seg (f' := (40, [some (.ref 37), some (.int y1), some (.int y2), some (.int y3), some (.int y4), some (.int g267)], [(.int (y2 + 1)), (.int g267), (.ref 3)])) (h' := (107, I, J, mm_rf 3 sp rr w nw)) 5 rfl ?_
        obtain ⟨g268, hg268⟩ : ∃ z, fX5_ironAt g267 (y2 + 1) 3 I = z := ⟨_, rfl⟩
        try rw [hg268] at e
        refine mm_T.call (t := 69) (as := [(.ref 3), (.int g267), (.int (y2 + 1))]) (f' := (43, [some (.ref 37), some (.int y1), some (.int y2), some (.int y3), some (.int y4), some (.int g267)], [])) rfl (tX5_ironAt (d + 0) g267 (y2 + 1) 3 I J 3 sp rr w nw (Or.inl rfl) g268 hg268) (fun v h hq => ?_)
        obtain ⟨rfl, rfl⟩ := hq
        refine mm_T.br (c := g268 = 0) (a := ((46, [some (.ref 37), some (.int y1), some (.int y2), some (.int y3), some (.int y4), some (.int g267)], []), (107, I, J, mm_rf 3 sp rr w nw))) (b := ((64, [some (.ref 37), some (.int y1), some (.int y2), some (.int y3), some (.int y4), some (.int g267)], []), (107, I, J, mm_rf 3 sp rr w nw))) rfl (fun h1967 => ?_) (fun h1967 => ?_)
        · rw [if_pos h1967] at e
          refine mm_T.seg (f' := (51, [some (.ref 37), some (.int y1), some (.int y2), some (.int y3), some (.int y4), some (.int g267)], [(.ref 38), (.int y3)])) (h' := (107, I, J, mm_rf 3 sp rr w nw)) 3 rfl ?_
          refine mm_T.seg (f' := (56, [some (.ref 37), some (.int y1), some (.int y2), some (.int y3), some (.int y4), some (.int g267)], [(.int (y2 + 1)), (.int g267), (.ref 38), (.int y3)])) (h' := (107, I, J, mm_rf 3 sp rr w nw)) 4 rfl ?_
          obtain ⟨g269, hg269⟩ : ∃ z, fX6_cell g267 (y2 + 1) = z := ⟨_, rfl⟩
          try rw [hg269] at e
          refine mm_T.call (t := 87) (as := [(.int g267), (.int (y2 + 1))]) (f' := (59, [some (.ref 37), some (.int y1), some (.int y2), some (.int y3), some (.int y4), some (.int g267)], [(.ref 38), (.int y3)])) rfl (tX6_cell (d + 1) g267 (y2 + 1) I J 3 sp rr w nw g269 hg269) (fun v h hq => ?_)
          obtain ⟨rfl, rfl⟩ := hq
          refine mm_T.call (t := 204) (as := [(.ref 38), (.int g269)]) (f' := (62, [some (.ref 37), some (.int y1), some (.int y2), some (.int y3), some (.int y4), some (.int g267)], [(.int y3)])) rfl (t_pick _ 38 56 g269 I J (mm_rf 3 sp rr w nw) rfl rfl) (fun v h hq => ?_)
          obtain ⟨rfl, rfl⟩ := hq
          refine mm_T.seg (f' := (5, [some (.ref 37), some (.int y1), some (.int y2), some (.int (y3 + (mf_pick I 38 56 g269))), some (.int (y4 + 1)), some (.int g267)], [])) (h' := (107, I, J, mm_rf 3 sp rr w nw)) 4 rfl ?_
          refine mm_T.mask [true, true, true, true, true, false] ?_
          exact ih y1 y2 (y3 + (mf_pick I 38 56 g269)) (y4 + 1) I J 3 sp rr w nw (Or.inl rfl) out e k
        · rw [if_neg h1967] at e
          refine mm_T.seg (f' := (5, [some (.ref 37), some (.int y1), some (.int y2), some (.int y3), some (.int (y4 + 1)), some (.int g267)], [])) (h' := (107, I, J, mm_rf 3 sp rr w nw)) 2 rfl ?_
          refine mm_T.mask [true, true, true, true, true, false] ?_
          exact ih y1 y2 y3 (y4 + 1) I J 3 sp rr w nw (Or.inl rfl) out e k
    · rw [fX6_waysFrom_L5] at e
      refine mm_T.seg (f' := (8, [some (.ref 37), some (.int y1), some (.int y2), some (.int y3), some (.int y4), none], [(.int 1), (.int y4)])) (h' := (107, I, J, mm_rf 19 sp rr w nw)) 2 rfl ?_
      refine mm_T.br (c := 1 < y4) (a := ((70, [some (.ref 37), some (.int y1), some (.int y2), some (.int y3), some (.int y4), none], []), (107, I, J, mm_rf 19 sp rr w nw))) (b := ((11, [some (.ref 37), some (.int y1), some (.int y2), some (.int y3), some (.int y4), none], []), (107, I, J, mm_rf 19 sp rr w nw))) rfl (fun h1966 => ?_) (fun h1966 => ?_)
      · rw [if_pos h1966] at e
        cases e
        refine mm_T.mask [false, false, false, true, false, false] ?_
        exact k
      · rw [if_neg h1966] at e
        refine mm_T.seg (f' := (15, [some (.ref 37), some (.int y1), some (.int y2), some (.int y3), some (.int y4), none], [(.ref 18)])) (h' := (107, I, J, mm_rf 19 sp rr w nw)) 2 rfl ?_
        refine mm_T.seg (f' := (23, [some (.ref 37), some (.int y1), some (.int y2), some (.int y3), some (.int y4), none], [(.int 1), (.int y4), (.int y2), (.int y1), (.ref 19)])) (h' := (107, I, J, mm_rf 19 sp rr w nw)) 5 rfl ?_
        obtain ⟨g267, hg267⟩ : ∃ z, fX5_leadsTo y1 y2 y4 1 19 I = z := ⟨_, rfl⟩
        try rw [hg267] at e
        refine mm_T.call (t := 81) (as := [(.ref 19), (.int y1), (.int y2), (.int y4), (.int 1)]) (f' := (26, [some (.ref 37), some (.int y1), some (.int y2), some (.int y3), some (.int y4), none], [])) rfl (tX5_leadsTo (d + 0) y1 y2 y4 1 19 I J 19 sp rr w nw (Or.inr rfl) g267 hg267) (fun v h hq => ?_)
        obtain ⟨rfl, rfl⟩ := hq
        refine mm_T.seg (f' := (32, [some (.ref 37), some (.int y1), some (.int y2), some (.int y3), some (.int y4), some (.int g267)], [(.ref 18)])) (h' := (107, I, J, mm_rf 19 sp rr w nw)) 3 rfl ?_
        refine mm_T.seg (f' := (40, [some (.ref 37), some (.int y1), some (.int y2), some (.int y3), some (.int y4), some (.int g267)], [(.int (y2 + 1)), (.int g267), (.ref 19)])) (h' := (107, I, J, mm_rf 19 sp rr w nw)) 5 rfl ?_
        obtain ⟨g268, hg268⟩ : ∃ z, fX5_ironAt g267 (y2 + 1) 19 I = z := ⟨_, rfl⟩
        try rw [hg268] at e
        refine mm_T.call (t := 69) (as := [(.ref 19), (.int g267), (.int (y2 + 1))]) (f' := (43, [some (.ref 37), some (.int y1), some (.int y2), some (.int y3), some (.int y4), some (.int g267)], [])) rfl (tX5_ironAt (d + 0) g267 (y2 + 1) 19 I J 19 sp rr w nw (Or.inr rfl) g268 hg268) (fun v h hq => ?_)
        obtain ⟨rfl, rfl⟩ := hq
        refine mm_T.br (c := g268 = 0) (a := ((46, [some (.ref 37), some (.int y1), some (.int y2), some (.int y3), some (.int y4), some (.int g267)], []), (107, I, J, mm_rf 19 sp rr w nw))) (b := ((64, [some (.ref 37), some (.int y1), some (.int y2), some (.int y3), some (.int y4), some (.int g267)], []), (107, I, J, mm_rf 19 sp rr w nw))) rfl (fun h1967 => ?_) (fun h1967 => ?_)
        · rw [if_pos h1967] at e
          refine mm_T.seg (f' := (51, [some (.ref 37), some (.int y1), some (.int y2), some (.int y3), some (.int y4), some (.int g267)], [(.ref 38), (.int y3)])) (h' := (107, I, J, mm_rf 19 sp rr w nw)) 3 rfl ?_
          refine mm_T.seg (f' := (56, [some (.ref 37), some (.int y1), some (.int y2), some (.int y3), some (.int y4), some (.int g267)], [(.int (y2 + 1)), (.int g267), (.ref 38), (.int y3)])) (h' := (107, I, J, mm_rf 19 sp rr w nw)) 4 rfl ?_
          obtain ⟨g269, hg269⟩ : ∃ z, fX6_cell g267 (y2 + 1) = z := ⟨_, rfl⟩
          try rw [hg269] at e
          refine mm_T.call (t := 87) (as := [(.int g267), (.int (y2 + 1))]) (f' := (59, [some (.ref 37), some (.int y1), some (.int y2), some (.int y3), some (.int y4), some (.int g267)], [(.ref 38), (.int y3)])) rfl (tX6_cell (d + 1) g267 (y2 + 1) I J 19 sp rr w nw g269 hg269) (fun v h hq => ?_)
          obtain ⟨rfl, rfl⟩ := hq
          refine mm_T.call (t := 204) (as := [(.ref 38), (.int g269)]) (f' := (62, [some (.ref 37), some (.int y1), some (.int y2), some (.int y3), some (.int y4), some (.int g267)], [(.int y3)])) rfl (t_pick _ 38 56 g269 I J (mm_rf 19 sp rr w nw) rfl rfl) (fun v h hq => ?_)
          obtain ⟨rfl, rfl⟩ := hq
          refine mm_T.seg (f' := (5, [some (.ref 37), some (.int y1), some (.int y2), some (.int (y3 + (mf_pick I 38 56 g269))), some (.int (y4 + 1)), some (.int g267)], [])) (h' := (107, I, J, mm_rf 19 sp rr w nw)) 4 rfl ?_
          refine mm_T.mask [true, true, true, true, true, false] ?_
          exact ih y1 y2 (y3 + (mf_pick I 38 56 g269)) (y4 + 1) I J 19 sp rr w nw (Or.inr rfl) out e k
        · rw [if_neg h1967] at e
          refine mm_T.seg (f' := (5, [some (.ref 37), some (.int y1), some (.int y2), some (.int y3), some (.int (y4 + 1)), some (.int g267)], [])) (h' := (107, I, J, mm_rf 19 sp rr w nw)) 2 rfl ?_
          refine mm_T.mask [true, true, true, true, true, false] ?_
          exact ih y1 y2 y3 (y4 + 1) I J 19 sp rr w nw (Or.inr rfl) out e k
set_option maxRecDepth 100000 in
set_option maxHeartbeats 4000000 in
theorem tX6_waysFrom (d n : Nat) (x1 : Int32) (x2 : Int32) (I : Nat → Nat → Int32) (J : Nat → Nat → Int64) (rv sp rr w nw : Nat) (hrv : rv = 3 ∨ rv = 19) (out : Int32) (e : fX6_waysFrom n x1 x2 I rv = some out) : mm_T none (d + 2) 89 (mm_ent 89 [(.ref 37), (.int x1), (.int x2)]) (107, I, J, mm_rf rv sp rr w nw) (fun v h => v = some (.int out) ∧ h = (107, I, J, mm_rf rv sp rr w nw)) := by
  rcases hrv with rfl | rfl
  · unfold fX6_waysFrom at e
    refine mm_T.seg (f' := (5, [some (.ref 37), some (.int x1), some (.int x2), some (.int 0), some (.int (-1)), none], [])) (h' := (107, I, J, mm_rf 3 sp rr w nw)) 4 rfl ?_
    refine mm_T.mask [true, true, true, true, true, false] ?_
    obtain ⟨o1968, eo1968, e⟩ := mm_bind e
    refine tlX6_waysFrom_L5 d _ n x1 x2 0 (-1) I J 3 sp rr w nw (Or.inl rfl) o1968 eo1968 ?_
    refine mm_T.seg (f' := (71, [none, none, none, some (.int o1968), none, none], [(.int o1968)])) (h' := (107, I, J, mm_rf 3 sp rr w nw)) 1 rfl ?_
    cases e
    exact mm_T.ret rfl ⟨rfl, rfl⟩
  · unfold fX6_waysFrom at e
    refine mm_T.seg (f' := (5, [some (.ref 37), some (.int x1), some (.int x2), some (.int 0), some (.int (-1)), none], [])) (h' := (107, I, J, mm_rf 19 sp rr w nw)) 4 rfl ?_
    refine mm_T.mask [true, true, true, true, true, false] ?_
    obtain ⟨o1968, eo1968, e⟩ := mm_bind e
    refine tlX6_waysFrom_L5 d _ n x1 x2 0 (-1) I J 19 sp rr w nw (Or.inr rfl) o1968 eo1968 ?_
    refine mm_T.seg (f' := (71, [none, none, none, some (.int o1968), none, none], [(.int o1968)])) (h' := (107, I, J, mm_rf 19 sp rr w nw)) 1 rfl ?_
    cases e
    exact mm_T.ret rfl ⟨rfl, rfl⟩
set_option maxRecDepth 100000 in
set_option maxHeartbeats 4000000 in
theorem tlX6_countRows_L10 (d : Nat) (Q : Option Value → mm_H → Prop) : ∀ (n : Nat) (y1 : Int32) (y3 : Int32) (I : Nat → Nat → Int32) (J : Nat → Nat → Int64) (rv sp rr w nw : Nat), (rv = 3 ∨ rv = 19) → ∀ (out : (Nat → Nat → Int32)), fX6_countRows_L10 n y1 y3 I rv = some out → mm_T none (d + 3) 88 (40, [some (.ref 37), some (.int y1), some (.ref rv), none, none], []) (107, out, J, mm_rf rv sp rr w nw) Q → mm_T none (d + 3) 88 (10, [some (.ref 37), some (.int y1), some (.ref rv), some (.int y3), none], []) (107, I, J, mm_rf rv sp rr w nw) Q := by
  intro n
  induction n with
  | zero =>
    intro y1 y3 I J rv sp rr w nw hrv out e k
    rw [fX6_countRows_L10] at e; cases e
  | succ n ih =>
    intro y1 y3 I J rv sp rr w nw hrv out e k
    rcases hrv with rfl | rfl
    · rw [fX6_countRows_L10] at e
      refine mm_T.seg (f' := (15, [some (.ref 37), some (.int y1), some (.ref 3), some (.int y3), none], [(.int (I 3 0)), (.int y3)])) (h' := (107, I, J, mm_rf 3 sp rr w nw)) 3 rfl ?_
      refine mm_T.br (c := y3 < (I 3 0)) (a := ((18, [some (.ref 37), some (.int y1), some (.ref 3), some (.int y3), none], []), (107, I, J, mm_rf 3 sp rr w nw))) (b := ((40, [some (.ref 37), some (.int y1), some (.ref 3), some (.int y3), none], []), (107, I, J, mm_rf 3 sp rr w nw))) rfl (fun h1960 => ?_) (fun h1960 => ?_)
      · rw [if_pos h1960] at e
        refine mm_T.seg (f' := (22, [some (.ref 37), some (.int y1), some (.ref 3), some (.int y3), none], [(.ref 38)])) (h' := (107, I, J, mm_rf 3 sp rr w nw)) 2 rfl ?_
        refine mm_T.seg (f' := (27, [some (.ref 37), some (.int y1), some (.ref 3), some (.int y3), none], [(.int (I 3 1)), (.int y3), (.ref 38)])) (h' := (107, I, J, mm_rf 3 sp rr w nw)) 3 rfl ?_
        obtain ⟨g261, hg261⟩ : ∃ z, fX6_cell y3 (I 3 1) = z := ⟨_, rfl⟩
        try rw [hg261] at e
        refine mm_T.call (t := 87) (as := [(.int y3), (.int (I 3 1))]) (f' := (30, [some (.ref 37), some (.int y1), some (.ref 3), some (.int y3), none], [(.ref 38)])) rfl (tX6_cell (d + 2) y3 (I 3 1) I J 3 sp rr w nw g261 hg261) (fun v h hq => ?_)
        obtain ⟨rfl, rfl⟩ := hq
        refine mm_T.seg (f' := (31, [some (.ref 37), some (.int y1), some (.ref 3), some (.int y3), none], [(.int 1), (.int g261), (.ref 38)])) (h' := (107, I, J, mm_rf 3 sp rr w nw)) 1 rfl ?_
        refine mm_T.call (t := 205) (as := [(.ref 38), (.int g261), (.int 1)]) (f' := (34, [some (.ref 37), some (.int y1), some (.ref 3), some (.int y3), none], [])) rfl (t_put _ 38 56 g261 1 I J (mm_rf 3 sp rr w nw) rfl rfl) (fun v h hq => ?_)
        obtain ⟨rfl, rfl⟩ := hq
        refine mm_T.seg (f' := (10, [some (.ref 37), some (.int y1), some (.ref 3), some (.int (y3 + 1)), none], [])) (h' := (107, (mf_put I 38 56 g261 1), J, mm_rf 3 sp rr w nw)) 2 rfl ?_
        refine mm_T.mask [true, true, true, true, false] ?_
        exact ih y1 (y3 + 1) (mf_put I 38 56 g261 1) J 3 sp rr w nw (Or.inl rfl) out e k
      · rw [if_neg h1960] at e
        cases e
        refine mm_T.mask [true, true, true, false, false] ?_
        exact k
    · rw [fX6_countRows_L10] at e
      refine mm_T.seg (f' := (15, [some (.ref 37), some (.int y1), some (.ref 19), some (.int y3), none], [(.int (I 19 0)), (.int y3)])) (h' := (107, I, J, mm_rf 19 sp rr w nw)) 3 rfl ?_
      refine mm_T.br (c := y3 < (I 19 0)) (a := ((18, [some (.ref 37), some (.int y1), some (.ref 19), some (.int y3), none], []), (107, I, J, mm_rf 19 sp rr w nw))) (b := ((40, [some (.ref 37), some (.int y1), some (.ref 19), some (.int y3), none], []), (107, I, J, mm_rf 19 sp rr w nw))) rfl (fun h1960 => ?_) (fun h1960 => ?_)
      · rw [if_pos h1960] at e
        refine mm_T.seg (f' := (22, [some (.ref 37), some (.int y1), some (.ref 19), some (.int y3), none], [(.ref 38)])) (h' := (107, I, J, mm_rf 19 sp rr w nw)) 2 rfl ?_
        refine mm_T.seg (f' := (27, [some (.ref 37), some (.int y1), some (.ref 19), some (.int y3), none], [(.int (I 19 1)), (.int y3), (.ref 38)])) (h' := (107, I, J, mm_rf 19 sp rr w nw)) 3 rfl ?_
        obtain ⟨g261, hg261⟩ : ∃ z, fX6_cell y3 (I 19 1) = z := ⟨_, rfl⟩
        try rw [hg261] at e
        refine mm_T.call (t := 87) (as := [(.int y3), (.int (I 19 1))]) (f' := (30, [some (.ref 37), some (.int y1), some (.ref 19), some (.int y3), none], [(.ref 38)])) rfl (tX6_cell (d + 2) y3 (I 19 1) I J 19 sp rr w nw g261 hg261) (fun v h hq => ?_)
        obtain ⟨rfl, rfl⟩ := hq
        refine mm_T.seg (f' := (31, [some (.ref 37), some (.int y1), some (.ref 19), some (.int y3), none], [(.int 1), (.int g261), (.ref 38)])) (h' := (107, I, J, mm_rf 19 sp rr w nw)) 1 rfl ?_
        refine mm_T.call (t := 205) (as := [(.ref 38), (.int g261), (.int 1)]) (f' := (34, [some (.ref 37), some (.int y1), some (.ref 19), some (.int y3), none], [])) rfl (t_put _ 38 56 g261 1 I J (mm_rf 19 sp rr w nw) rfl rfl) (fun v h hq => ?_)
        obtain ⟨rfl, rfl⟩ := hq
        refine mm_T.seg (f' := (10, [some (.ref 37), some (.int y1), some (.ref 19), some (.int (y3 + 1)), none], [])) (h' := (107, (mf_put I 38 56 g261 1), J, mm_rf 19 sp rr w nw)) 2 rfl ?_
        refine mm_T.mask [true, true, true, true, false] ?_
        exact ih y1 (y3 + 1) (mf_put I 38 56 g261 1) J 19 sp rr w nw (Or.inr rfl) out e k
      · rw [if_neg h1960] at e
        cases e
        refine mm_T.mask [true, true, true, false, false] ?_
        exact k
set_option maxRecDepth 100000 in
set_option maxHeartbeats 4000000 in
theorem tlX6_countRows_L62 (d : Nat) (Q : Option Value → mm_H → Prop) : ∀ (n : Nat) (y1 : Int32) (y3 : Int32) (y4 : Int32) (I : Nat → Nat → Int32) (J : Nat → Nat → Int64) (rv sp rr w nw : Nat), (rv = 3 ∨ rv = 19) → ∀ (out : (Nat → Nat → Int32)), fX6_countRows_L62 n y1 y3 y4 I rv = some out → mm_T none (d + 3) 88 (97, [some (.ref 37), some (.int y1), some (.ref rv), some (.int y3), none], []) (107, out, J, mm_rf rv sp rr w nw) Q → mm_T none (d + 3) 88 (62, [some (.ref 37), some (.int y1), some (.ref rv), some (.int y3), some (.int y4)], []) (107, I, J, mm_rf rv sp rr w nw) Q := by
  intro n
  induction n with
  | zero =>
    intro y1 y3 y4 I J rv sp rr w nw hrv out e k
    rw [fX6_countRows_L62] at e; cases e
  | succ n ih =>
    intro y1 y3 y4 I J rv sp rr w nw hrv out e k
    rcases hrv with rfl | rfl
    · rw [fX6_countRows_L62] at e
      refine mm_T.seg (f' := (68, [some (.ref 37), some (.int y1), some (.ref 3), some (.int y3), some (.int y4)], [(.int (I 3 0)), (.int y4)])) (h' := (107, I, J, mm_rf 3 sp rr w nw)) 3 rfl ?_
      refine mm_T.br (c := y4 < (I 3 0)) (a := ((71, [some (.ref 37), some (.int y1), some (.ref 3), some (.int y3), some (.int y4)], []), (107, I, J, mm_rf 3 sp rr w nw))) (b := ((97, [some (.ref 37), some (.int y1), some (.ref 3), some (.int y3), some (.int y4)], []), (107, I, J, mm_rf 3 sp rr w nw))) rfl (fun h1963 => ?_) (fun h1963 => ?_)
      · rw [if_pos h1963] at e
        refine mm_T.seg (f' := (75, [some (.ref 37), some (.int y1), some (.ref 3), some (.int y3), some (.int y4)], [(.ref 38)])) (h' := (107, I, J, mm_rf 3 sp rr w nw)) 2 rfl ?_
        refine mm_T.seg (f' := (78, [some (.ref 37), some (.int y1), some (.ref 3), some (.int y3), some (.int y4)], [(.int y3), (.int y4), (.ref 38)])) (h' := (107, I, J, mm_rf 3 sp rr w nw)) 2 rfl ?_
        obtain ⟨g263, hg263⟩ : ∃ z, fX6_cell y4 y3 = z := ⟨_, rfl⟩
        try rw [hg263] at e
        refine mm_T.call (t := 87) (as := [(.int y4), (.int y3)]) (f' := (81, [some (.ref 37), some (.int y1), some (.ref 3), some (.int y3), some (.int y4)], [(.ref 38)])) rfl (tX6_cell (d + 2) y4 y3 I J 3 sp rr w nw g263 hg263) (fun v h hq => ?_)
        obtain ⟨rfl, rfl⟩ := hq
        refine mm_T.seg (f' := (85, [some (.ref 37), some (.int y1), some (.ref 3), some (.int y3), some (.int y4)], [(.int y3), (.int y4), (.ref 37), (.int g263), (.ref 38)])) (h' := (107, I, J, mm_rf 3 sp rr w nw)) 3 rfl ?_
        obtain ⟨o1969, eo1969, e⟩ := mm_bind e
        refine mm_T.call (t := 89) (as := [(.ref 37), (.int y4), (.int y3)]) (f' := (88, [some (.ref 37), some (.int y1), some (.ref 3), some (.int y3), some (.int y4)], [(.int g263), (.ref 38)])) rfl (tX6_waysFrom (d + 0) n y4 y3 I J 3 sp rr w nw (Or.inl rfl) o1969 eo1969) (fun v h hq => ?_)
        obtain ⟨rfl, rfl⟩ := hq
        refine mm_T.call (t := 205) (as := [(.ref 38), (.int g263), (.int o1969)]) (f' := (91, [some (.ref 37), some (.int y1), some (.ref 3), some (.int y3), some (.int y4)], [])) rfl (t_put _ 38 56 g263 o1969 I J (mm_rf 3 sp rr w nw) rfl rfl) (fun v h hq => ?_)
        obtain ⟨rfl, rfl⟩ := hq
        refine mm_T.seg (f' := (62, [some (.ref 37), some (.int y1), some (.ref 3), some (.int y3), some (.int (y4 + 1))], [])) (h' := (107, (mf_put I 38 56 g263 o1969), J, mm_rf 3 sp rr w nw)) 2 rfl ?_
        refine mm_T.mask [true, true, true, true, true] ?_
        exact ih y1 y3 (y4 + 1) (mf_put I 38 56 g263 o1969) J 3 sp rr w nw (Or.inl rfl) out e k
      · rw [if_neg h1963] at e
        cases e
        refine mm_T.mask [true, true, true, true, false] ?_
        exact k
    · rw [fX6_countRows_L62] at e
      refine mm_T.seg (f' := (68, [some (.ref 37), some (.int y1), some (.ref 19), some (.int y3), some (.int y4)], [(.int (I 19 0)), (.int y4)])) (h' := (107, I, J, mm_rf 19 sp rr w nw)) 3 rfl ?_
      refine mm_T.br (c := y4 < (I 19 0)) (a := ((71, [some (.ref 37), some (.int y1), some (.ref 19), some (.int y3), some (.int y4)], []), (107, I, J, mm_rf 19 sp rr w nw))) (b := ((97, [some (.ref 37), some (.int y1), some (.ref 19), some (.int y3), some (.int y4)], []), (107, I, J, mm_rf 19 sp rr w nw))) rfl (fun h1963 => ?_) (fun h1963 => ?_)
      · rw [if_pos h1963] at e
        refine mm_T.seg (f' := (75, [some (.ref 37), some (.int y1), some (.ref 19), some (.int y3), some (.int y4)], [(.ref 38)])) (h' := (107, I, J, mm_rf 19 sp rr w nw)) 2 rfl ?_
        refine mm_T.seg (f' := (78, [some (.ref 37), some (.int y1), some (.ref 19), some (.int y3), some (.int y4)], [(.int y3), (.int y4), (.ref 38)])) (h' := (107, I, J, mm_rf 19 sp rr w nw)) 2 rfl ?_
        obtain ⟨g263, hg263⟩ : ∃ z, fX6_cell y4 y3 = z := ⟨_, rfl⟩
        try rw [hg263] at e
        refine mm_T.call (t := 87) (as := [(.int y4), (.int y3)]) (f' := (81, [some (.ref 37), some (.int y1), some (.ref 19), some (.int y3), some (.int y4)], [(.ref 38)])) rfl (tX6_cell (d + 2) y4 y3 I J 19 sp rr w nw g263 hg263) (fun v h hq => ?_)
        obtain ⟨rfl, rfl⟩ := hq
        refine mm_T.seg (f' := (85, [some (.ref 37), some (.int y1), some (.ref 19), some (.int y3), some (.int y4)], [(.int y3), (.int y4), (.ref 37), (.int g263), (.ref 38)])) (h' := (107, I, J, mm_rf 19 sp rr w nw)) 3 rfl ?_
        obtain ⟨o1969, eo1969, e⟩ := mm_bind e
        refine mm_T.call (t := 89) (as := [(.ref 37), (.int y4), (.int y3)]) (f' := (88, [some (.ref 37), some (.int y1), some (.ref 19), some (.int y3), some (.int y4)], [(.int g263), (.ref 38)])) rfl (tX6_waysFrom (d + 0) n y4 y3 I J 19 sp rr w nw (Or.inr rfl) o1969 eo1969) (fun v h hq => ?_)
        obtain ⟨rfl, rfl⟩ := hq
        refine mm_T.call (t := 205) (as := [(.ref 38), (.int g263), (.int o1969)]) (f' := (91, [some (.ref 37), some (.int y1), some (.ref 19), some (.int y3), some (.int y4)], [])) rfl (t_put _ 38 56 g263 o1969 I J (mm_rf 19 sp rr w nw) rfl rfl) (fun v h hq => ?_)
        obtain ⟨rfl, rfl⟩ := hq
        refine mm_T.seg (f' := (62, [some (.ref 37), some (.int y1), some (.ref 19), some (.int y3), some (.int (y4 + 1))], [])) (h' := (107, (mf_put I 38 56 g263 o1969), J, mm_rf 19 sp rr w nw)) 2 rfl ?_
        refine mm_T.mask [true, true, true, true, true] ?_
        exact ih y1 y3 (y4 + 1) (mf_put I 38 56 g263 o1969) J 19 sp rr w nw (Or.inr rfl) out e k
      · rw [if_neg h1963] at e
        cases e
        refine mm_T.mask [true, true, true, true, false] ?_
        exact k
set_option maxRecDepth 100000 in
set_option maxHeartbeats 4000000 in
theorem tlX6_countRows_L47 (d : Nat) (Q : Option Value → mm_H → Prop) : ∀ (n : Nat) (y1 : Int32) (y3 : Int32) (I : Nat → Nat → Int32) (J : Nat → Nat → Int64) (rv sp rr w nw : Nat), (rv = 3 ∨ rv = 19) → ∀ (out : (Nat → Nat → Int32)), fX6_countRows_L47 n y1 y3 I rv = some out → mm_T none (d + 3) 88 (103, [some (.ref 37), some (.int y1), none, none, none], []) (107, out, J, mm_rf rv sp rr w nw) Q → mm_T none (d + 3) 88 (47, [some (.ref 37), some (.int y1), some (.ref rv), some (.int y3), none], []) (107, I, J, mm_rf rv sp rr w nw) Q := by
  intro n
  induction n with
  | zero =>
    intro y1 y3 I J rv sp rr w nw hrv out e k
    rw [fX6_countRows_L47] at e; cases e
  | succ n ih =>
    intro y1 y3 I J rv sp rr w nw hrv out e k
    rcases hrv with rfl | rfl
    · rw [fX6_countRows_L47] at e
      refine mm_T.seg (f' := (52, [some (.ref 37), some (.int y1), some (.ref 3), some (.int y3), none], [(.ref 18), (.int y3)])) (h' := (107, I, J, mm_rf 3 sp rr w nw)) 3 rfl ?_
      refine mm_T.seg (f' := (53, [some (.ref 37), some (.int y1), some (.ref 3), some (.int y3), none], [(.int y1), (.ref 18), (.int y3)])) (h' := (107, I, J, mm_rf 3 sp rr w nw)) 1 rfl ?_
      obtain ⟨g262, hg262⟩ : ∃ z, fX7_rowOf y1 I = z := ⟨_, rfl⟩
      try rw [hg262] at e
      refine mm_T.call (t := 106) (as := [(.ref 18), (.int y1)]) (f' := (56, [some (.ref 37), some (.int y1), some (.ref 3), some (.int y3), none], [(.int y3)])) rfl (tX7_rowOf (d + 0) y1 I J 3 sp rr w nw g262 hg262) (fun v h hq => ?_)
      obtain ⟨rfl, rfl⟩ := hq
      refine mm_T.br (c := y3 < g262) (a := ((103, [some (.ref 37), some (.int y1), some (.ref 3), some (.int y3), none], []), (107, I, J, mm_rf 3 sp rr w nw))) (b := ((59, [some (.ref 37), some (.int y1), some (.ref 3), some (.int y3), none], []), (107, I, J, mm_rf 3 sp rr w nw))) rfl (fun h1962 => ?_) (fun h1962 => ?_)
      · rw [if_pos h1962] at e
        cases e
        refine mm_T.mask [true, true, false, false, false] ?_
        exact k
      · rw [if_neg h1962] at e
        refine mm_T.seg (f' := (62, [some (.ref 37), some (.int y1), some (.ref 3), some (.int y3), some (.int 0)], [])) (h' := (107, I, J, mm_rf 3 sp rr w nw)) 2 rfl ?_
        refine mm_T.mask [true, true, true, true, true] ?_
        obtain ⟨o1970, eo1970, e⟩ := mm_bind e
        refine tlX6_countRows_L62 d _ n y1 y3 0 I J 3 sp rr w nw (Or.inl rfl) o1970 eo1970 ?_
        refine mm_T.seg (f' := (47, [some (.ref 37), some (.int y1), some (.ref 3), some (.int (y3 + (-1))), none], [])) (h' := (107, o1970, J, mm_rf 3 sp rr w nw)) 2 rfl ?_
        refine mm_T.mask [true, true, true, true, false] ?_
        exact ih y1 (y3 + (-1)) o1970 J 3 sp rr w nw (Or.inl rfl) out e k
    · rw [fX6_countRows_L47] at e
      refine mm_T.seg (f' := (52, [some (.ref 37), some (.int y1), some (.ref 19), some (.int y3), none], [(.ref 18), (.int y3)])) (h' := (107, I, J, mm_rf 19 sp rr w nw)) 3 rfl ?_
      refine mm_T.seg (f' := (53, [some (.ref 37), some (.int y1), some (.ref 19), some (.int y3), none], [(.int y1), (.ref 18), (.int y3)])) (h' := (107, I, J, mm_rf 19 sp rr w nw)) 1 rfl ?_
      obtain ⟨g262, hg262⟩ : ∃ z, fX7_rowOf y1 I = z := ⟨_, rfl⟩
      try rw [hg262] at e
      refine mm_T.call (t := 106) (as := [(.ref 18), (.int y1)]) (f' := (56, [some (.ref 37), some (.int y1), some (.ref 19), some (.int y3), none], [(.int y3)])) rfl (tX7_rowOf (d + 0) y1 I J 19 sp rr w nw g262 hg262) (fun v h hq => ?_)
      obtain ⟨rfl, rfl⟩ := hq
      refine mm_T.br (c := y3 < g262) (a := ((103, [some (.ref 37), some (.int y1), some (.ref 19), some (.int y3), none], []), (107, I, J, mm_rf 19 sp rr w nw))) (b := ((59, [some (.ref 37), some (.int y1), some (.ref 19), some (.int y3), none], []), (107, I, J, mm_rf 19 sp rr w nw))) rfl (fun h1962 => ?_) (fun h1962 => ?_)
      · rw [if_pos h1962] at e
        cases e
        refine mm_T.mask [true, true, false, false, false] ?_
        exact k
      · rw [if_neg h1962] at e
        refine mm_T.seg (f' := (62, [some (.ref 37), some (.int y1), some (.ref 19), some (.int y3), some (.int 0)], [])) (h' := (107, I, J, mm_rf 19 sp rr w nw)) 2 rfl ?_
        refine mm_T.mask [true, true, true, true, true] ?_
        obtain ⟨o1970, eo1970, e⟩ := mm_bind e
        refine tlX6_countRows_L62 d _ n y1 y3 0 I J 19 sp rr w nw (Or.inr rfl) o1970 eo1970 ?_
        refine mm_T.seg (f' := (47, [some (.ref 37), some (.int y1), some (.ref 19), some (.int (y3 + (-1))), none], [])) (h' := (107, o1970, J, mm_rf 19 sp rr w nw)) 2 rfl ?_
        refine mm_T.mask [true, true, true, true, false] ?_
        exact ih y1 (y3 + (-1)) o1970 J 19 sp rr w nw (Or.inr rfl) out e k
set_option maxRecDepth 100000 in
set_option maxHeartbeats 4000000 in
theorem tX6_countRows (d n : Nat) (x1 : Int32) (I : Nat → Nat → Int32) (J : Nat → Nat → Int64) (rv sp rr w nw : Nat) (hrv : rv = 3 ∨ rv = 19) (out : Int32 × (Nat → Nat → Int32)) (e : fX6_countRows n x1 I rv = some out) : mm_T none (d + 3) 88 (mm_ent 88 [(.ref 37), (.int x1)]) (107, I, J, mm_rf rv sp rr w nw) (fun v h => v = some (.int out.1) ∧ h = (107, out.2, J, mm_rf rv sp rr w nw)) := by
  rcases hrv with rfl | rfl
  · unfold fX6_countRows at e
    refine mm_T.seg (f' := (4, [some (.ref 37), some (.int x1), none, none, none], [(.ref 18)])) (h' := (107, I, J, mm_rf 3 sp rr w nw)) 2 rfl ?_
    refine mm_T.seg (f' := (10, [some (.ref 37), some (.int x1), some (.ref 3), some (.int 0), none], [])) (h' := (107, I, J, mm_rf 3 sp rr w nw)) 4 rfl ?_
    refine mm_T.mask [true, true, true, true, false] ?_
    obtain ⟨o1961, eo1961, e⟩ := mm_bind e
    refine tlX6_countRows_L10 d _ n x1 0 I J 3 sp rr w nw (Or.inl rfl) o1961 eo1961 ?_
    refine mm_T.seg (f' := (47, [some (.ref 37), some (.int x1), some (.ref 3), some (.int ((o1961 3 1) - 1)), none], [])) (h' := (107, o1961, J, mm_rf 3 sp rr w nw)) 5 rfl ?_
    refine mm_T.mask [true, true, true, true, false] ?_
    obtain ⟨o1971, eo1971, e⟩ := mm_bind e
    refine tlX6_countRows_L47 d _ n x1 ((o1961 3 1) - 1) o1961 J 3 sp rr w nw (Or.inl rfl) o1971 eo1971 ?_
    refine mm_T.seg (f' := (107, [some (.ref 37), some (.int x1), none, none, none], [(.ref 38)])) (h' := (107, o1971, J, mm_rf 3 sp rr w nw)) 2 rfl ?_
    refine mm_T.seg (f' := (111, [some (.ref 37), some (.int x1), none, none, none], [(.ref 18), (.ref 38)])) (h' := (107, o1971, J, mm_rf 3 sp rr w nw)) 2 rfl ?_
    refine mm_T.seg (f' := (112, [some (.ref 37), some (.int x1), none, none, none], [(.int x1), (.ref 18), (.ref 38)])) (h' := (107, o1971, J, mm_rf 3 sp rr w nw)) 1 rfl ?_
    obtain ⟨g270, hg270⟩ : ∃ z, fX7_columnOf x1 o1971 = z := ⟨_, rfl⟩
    try rw [hg270] at e
    refine mm_T.call (t := 105) (as := [(.ref 18), (.int x1)]) (f' := (115, [some (.ref 37), some (.int x1), none, none, none], [(.ref 38)])) rfl (tX7_columnOf (d + 0) x1 o1971 J 3 sp rr w nw g270 hg270) (fun v h hq => ?_)
    obtain ⟨rfl, rfl⟩ := hq
    refine mm_T.seg (f' := (119, [some (.ref 37), some (.int x1), none, none, none], [(.ref 18), (.int g270), (.ref 38)])) (h' := (107, o1971, J, mm_rf 3 sp rr w nw)) 2 rfl ?_
    refine mm_T.seg (f' := (120, [some (.ref 37), some (.int x1), none, none, none], [(.int x1), (.ref 18), (.int g270), (.ref 38)])) (h' := (107, o1971, J, mm_rf 3 sp rr w nw)) 1 rfl ?_
    obtain ⟨g271, hg271⟩ : ∃ z, fX7_rowOf x1 o1971 = z := ⟨_, rfl⟩
    try rw [hg271] at e
    refine mm_T.call (t := 106) (as := [(.ref 18), (.int x1)]) (f' := (123, [some (.ref 37), some (.int x1), none, none, none], [(.int g270), (.ref 38)])) rfl (tX7_rowOf (d + 0) x1 o1971 J 3 sp rr w nw g271 hg271) (fun v h hq => ?_)
    obtain ⟨rfl, rfl⟩ := hq
    obtain ⟨g272, hg272⟩ : ∃ z, fX6_cell g270 g271 = z := ⟨_, rfl⟩
    try rw [hg272] at e
    refine mm_T.call (t := 87) (as := [(.int g270), (.int g271)]) (f' := (126, [some (.ref 37), some (.int x1), none, none, none], [(.ref 38)])) rfl (tX6_cell (d + 2) g270 g271 o1971 J 3 sp rr w nw g272 hg272) (fun v h hq => ?_)
    obtain ⟨rfl, rfl⟩ := hq
    refine mm_T.call (t := 204) (as := [(.ref 38), (.int g272)]) (f' := (129, [some (.ref 37), some (.int x1), none, none, none], [])) rfl (t_pick _ 38 56 g272 o1971 J (mm_rf 3 sp rr w nw) rfl rfl) (fun v h hq => ?_)
    obtain ⟨rfl, rfl⟩ := hq
    cases e
    exact mm_T.ret rfl ⟨rfl, rfl⟩
  · unfold fX6_countRows at e
    refine mm_T.seg (f' := (4, [some (.ref 37), some (.int x1), none, none, none], [(.ref 18)])) (h' := (107, I, J, mm_rf 19 sp rr w nw)) 2 rfl ?_
    refine mm_T.seg (f' := (10, [some (.ref 37), some (.int x1), some (.ref 19), some (.int 0), none], [])) (h' := (107, I, J, mm_rf 19 sp rr w nw)) 4 rfl ?_
    refine mm_T.mask [true, true, true, true, false] ?_
    obtain ⟨o1961, eo1961, e⟩ := mm_bind e
    refine tlX6_countRows_L10 d _ n x1 0 I J 19 sp rr w nw (Or.inr rfl) o1961 eo1961 ?_
    refine mm_T.seg (f' := (47, [some (.ref 37), some (.int x1), some (.ref 19), some (.int ((o1961 19 1) - 1)), none], [])) (h' := (107, o1961, J, mm_rf 19 sp rr w nw)) 5 rfl ?_
    refine mm_T.mask [true, true, true, true, false] ?_
    obtain ⟨o1971, eo1971, e⟩ := mm_bind e
    refine tlX6_countRows_L47 d _ n x1 ((o1961 19 1) - 1) o1961 J 19 sp rr w nw (Or.inr rfl) o1971 eo1971 ?_
    refine mm_T.seg (f' := (107, [some (.ref 37), some (.int x1), none, none, none], [(.ref 38)])) (h' := (107, o1971, J, mm_rf 19 sp rr w nw)) 2 rfl ?_
    refine mm_T.seg (f' := (111, [some (.ref 37), some (.int x1), none, none, none], [(.ref 18), (.ref 38)])) (h' := (107, o1971, J, mm_rf 19 sp rr w nw)) 2 rfl ?_
    refine mm_T.seg (f' := (112, [some (.ref 37), some (.int x1), none, none, none], [(.int x1), (.ref 18), (.ref 38)])) (h' := (107, o1971, J, mm_rf 19 sp rr w nw)) 1 rfl ?_
    obtain ⟨g270, hg270⟩ : ∃ z, fX7_columnOf x1 o1971 = z := ⟨_, rfl⟩
    try rw [hg270] at e
    refine mm_T.call (t := 105) (as := [(.ref 18), (.int x1)]) (f' := (115, [some (.ref 37), some (.int x1), none, none, none], [(.ref 38)])) rfl (tX7_columnOf (d + 0) x1 o1971 J 19 sp rr w nw g270 hg270) (fun v h hq => ?_)
    obtain ⟨rfl, rfl⟩ := hq
    refine mm_T.seg (f' := (119, [some (.ref 37), some (.int x1), none, none, none], [(.ref 18), (.int g270), (.ref 38)])) (h' := (107, o1971, J, mm_rf 19 sp rr w nw)) 2 rfl ?_
    refine mm_T.seg (f' := (120, [some (.ref 37), some (.int x1), none, none, none], [(.int x1), (.ref 18), (.int g270), (.ref 38)])) (h' := (107, o1971, J, mm_rf 19 sp rr w nw)) 1 rfl ?_
    obtain ⟨g271, hg271⟩ : ∃ z, fX7_rowOf x1 o1971 = z := ⟨_, rfl⟩
    try rw [hg271] at e
    refine mm_T.call (t := 106) (as := [(.ref 18), (.int x1)]) (f' := (123, [some (.ref 37), some (.int x1), none, none, none], [(.int g270), (.ref 38)])) rfl (tX7_rowOf (d + 0) x1 o1971 J 19 sp rr w nw g271 hg271) (fun v h hq => ?_)
    obtain ⟨rfl, rfl⟩ := hq
    obtain ⟨g272, hg272⟩ : ∃ z, fX6_cell g270 g271 = z := ⟨_, rfl⟩
    try rw [hg272] at e
    refine mm_T.call (t := 87) (as := [(.int g270), (.int g271)]) (f' := (126, [some (.ref 37), some (.int x1), none, none, none], [(.ref 38)])) rfl (tX6_cell (d + 2) g270 g271 o1971 J 19 sp rr w nw g272 hg272) (fun v h hq => ?_)
    obtain ⟨rfl, rfl⟩ := hq
    refine mm_T.call (t := 204) (as := [(.ref 38), (.int g272)]) (f' := (129, [some (.ref 37), some (.int x1), none, none, none], [])) rfl (t_pick _ 38 56 g272 o1971 J (mm_rf 19 sp rr w nw) rfl rfl) (fun v h hq => ?_)
    obtain ⟨rfl, rfl⟩ := hq
    cases e
    exact mm_T.ret rfl ⟨rfl, rfl⟩
set_option maxRecDepth 100000 in
set_option maxHeartbeats 4000000 in
theorem tX6_fewestBy (d : Nat) (x1 : Int32) (x2 : Int32) (x3 : Int32) (I : Nat → Nat → Int32) (J : Nat → Nat → Int64) (rv sp rr w nw : Nat) (hrv : rv = 3 ∨ rv = 19) (out : Int32) (e : fX6_fewestBy x1 x2 x3 I rv = out) : mm_T none (d + 2) 92 (mm_ent 92 [(.ref 37), (.int x1), (.int x2), (.int x3)]) (107, I, J, mm_rf rv sp rr w nw) (fun v h => v = some (.int out) ∧ h = (107, I, J, mm_rf rv sp rr w nw)) := by
  rcases hrv with rfl | rfl
  · unfold fX6_fewestBy at e
    refine mm_T.seg (f' := (4, [some (.ref 37), some (.int x1), some (.int x2), some (.int x3), none], [(.ref 18)])) (h' := (107, I, J, mm_rf 3 sp rr w nw)) 2 rfl ?_
    refine mm_T.seg (f' := (11, [some (.ref 37), some (.int x1), some (.int x2), some (.int x3), none], [(.int 1), (.int x3), (.int x2), (.int x1), (.ref 3)])) (h' := (107, I, J, mm_rf 3 sp rr w nw)) 5 rfl ?_
    obtain ⟨g273, hg273⟩ : ∃ z, fX5_leadsTo x1 x2 x3 1 3 I = z := ⟨_, rfl⟩
    try rw [hg273] at e
    refine mm_T.call (t := 81) (as := [(.ref 3), (.int x1), (.int x2), (.int x3), (.int 1)]) (f' := (14, [some (.ref 37), some (.int x1), some (.int x2), some (.int x3), none], [])) rfl (tX5_leadsTo (d + 0) x1 x2 x3 1 3 I J 3 sp rr w nw (Or.inl rfl) g273 hg273) (fun v h hq => ?_)
    obtain ⟨rfl, rfl⟩ := hq
    refine mm_T.seg (f' := (20, [some (.ref 37), some (.int x1), some (.int x2), some (.int x3), some (.int g273)], [(.ref 18)])) (h' := (107, I, J, mm_rf 3 sp rr w nw)) 3 rfl ?_
    refine mm_T.seg (f' := (28, [some (.ref 37), some (.int x1), some (.int x2), some (.int x3), some (.int g273)], [(.int (x2 + 1)), (.int g273), (.ref 3)])) (h' := (107, I, J, mm_rf 3 sp rr w nw)) 5 rfl ?_
    obtain ⟨g274, hg274⟩ : ∃ z, fX5_ironAt g273 (x2 + 1) 3 I = z := ⟨_, rfl⟩
    try rw [hg274] at e
    refine mm_T.call (t := 69) (as := [(.ref 3), (.int g273), (.int (x2 + 1))]) (f' := (31, [some (.ref 37), some (.int x1), some (.int x2), some (.int x3), some (.int g273)], [])) rfl (tX5_ironAt (d + 0) g273 (x2 + 1) 3 I J 3 sp rr w nw (Or.inl rfl) g274 hg274) (fun v h hq => ?_)
    obtain ⟨rfl, rfl⟩ := hq
    refine mm_T.br (c := g274 = 0) (a := ((39, [some (.ref 37), some (.int x1), some (.int x2), some (.int x3), some (.int g273)], []), (107, I, J, mm_rf 3 sp rr w nw))) (b := ((34, [some (.ref 37), some (.int x1), some (.int x2), some (.int x3), some (.int g273)], []), (107, I, J, mm_rf 3 sp rr w nw))) rfl (fun h1978 => ?_) (fun h1978 => ?_)
    · rw [if_pos h1978] at e
      refine mm_T.seg (f' := (40, [some (.ref 37), some (.int x1), some (.int x2), some (.int x3), some (.int g273)], [(.int x3)])) (h' := (107, I, J, mm_rf 3 sp rr w nw)) 1 rfl ?_
      obtain ⟨g275, hg275⟩ : ∃ z, fJ9_abs x3 = z := ⟨_, rfl⟩
      try rw [hg275] at e
      refine mm_T.call (t := 346) (as := [(.int x3)]) (f' := (43, [some (.ref 37), some (.int x1), some (.int x2), some (.int x3), some (.int g273)], [])) rfl (tJ9_abs (d + 1) x3 I J 3 sp rr w nw g275 hg275) (fun v h hq => ?_)
      obtain ⟨rfl, rfl⟩ := hq
      refine mm_T.seg (f' := (47, [some (.ref 37), some (.int x1), some (.int x2), some (.int x3), some (.int g273)], [(.ref 38), (.int g275)])) (h' := (107, I, J, mm_rf 3 sp rr w nw)) 2 rfl ?_
      refine mm_T.seg (f' := (52, [some (.ref 37), some (.int x1), some (.int x2), some (.int x3), some (.int g273)], [(.int (x2 + 1)), (.int g273), (.ref 38), (.int g275)])) (h' := (107, I, J, mm_rf 3 sp rr w nw)) 4 rfl ?_
      obtain ⟨g276, hg276⟩ : ∃ z, fX6_cell g273 (x2 + 1) = z := ⟨_, rfl⟩
      try rw [hg276] at e
      refine mm_T.call (t := 87) (as := [(.int g273), (.int (x2 + 1))]) (f' := (55, [some (.ref 37), some (.int x1), some (.int x2), some (.int x3), some (.int g273)], [(.ref 38), (.int g275)])) rfl (tX6_cell (d + 1) g273 (x2 + 1) I J 3 sp rr w nw g276 hg276) (fun v h hq => ?_)
      obtain ⟨rfl, rfl⟩ := hq
      refine mm_T.call (t := 204) (as := [(.ref 38), (.int g276)]) (f' := (58, [some (.ref 37), some (.int x1), some (.int x2), some (.int x3), some (.int g273)], [(.int g275)])) rfl (t_pick _ 38 56 g276 I J (mm_rf 3 sp rr w nw) rfl rfl) (fun v h hq => ?_)
      obtain ⟨rfl, rfl⟩ := hq
      refine mm_T.seg (f' := (59, [some (.ref 37), some (.int x1), some (.int x2), some (.int x3), some (.int g273)], [(.int (g275 + (mf_pick I 38 56 g276)))])) (h' := (107, I, J, mm_rf 3 sp rr w nw)) 1 rfl ?_
      cases e
      exact mm_T.ret rfl ⟨rfl, rfl⟩
    · rw [if_neg h1978] at e
      refine mm_T.seg (f' := (59, [some (.ref 37), some (.int x1), some (.int x2), some (.int x3), some (.int g273)], [(.int 99)])) (h' := (107, I, J, mm_rf 3 sp rr w nw)) 2 rfl ?_
      cases e
      exact mm_T.ret rfl ⟨rfl, rfl⟩
  · unfold fX6_fewestBy at e
    refine mm_T.seg (f' := (4, [some (.ref 37), some (.int x1), some (.int x2), some (.int x3), none], [(.ref 18)])) (h' := (107, I, J, mm_rf 19 sp rr w nw)) 2 rfl ?_
    refine mm_T.seg (f' := (11, [some (.ref 37), some (.int x1), some (.int x2), some (.int x3), none], [(.int 1), (.int x3), (.int x2), (.int x1), (.ref 19)])) (h' := (107, I, J, mm_rf 19 sp rr w nw)) 5 rfl ?_
    obtain ⟨g273, hg273⟩ : ∃ z, fX5_leadsTo x1 x2 x3 1 19 I = z := ⟨_, rfl⟩
    try rw [hg273] at e
    refine mm_T.call (t := 81) (as := [(.ref 19), (.int x1), (.int x2), (.int x3), (.int 1)]) (f' := (14, [some (.ref 37), some (.int x1), some (.int x2), some (.int x3), none], [])) rfl (tX5_leadsTo (d + 0) x1 x2 x3 1 19 I J 19 sp rr w nw (Or.inr rfl) g273 hg273) (fun v h hq => ?_)
    obtain ⟨rfl, rfl⟩ := hq
    refine mm_T.seg (f' := (20, [some (.ref 37), some (.int x1), some (.int x2), some (.int x3), some (.int g273)], [(.ref 18)])) (h' := (107, I, J, mm_rf 19 sp rr w nw)) 3 rfl ?_
    refine mm_T.seg (f' := (28, [some (.ref 37), some (.int x1), some (.int x2), some (.int x3), some (.int g273)], [(.int (x2 + 1)), (.int g273), (.ref 19)])) (h' := (107, I, J, mm_rf 19 sp rr w nw)) 5 rfl ?_
    obtain ⟨g274, hg274⟩ : ∃ z, fX5_ironAt g273 (x2 + 1) 19 I = z := ⟨_, rfl⟩
    try rw [hg274] at e
    refine mm_T.call (t := 69) (as := [(.ref 19), (.int g273), (.int (x2 + 1))]) (f' := (31, [some (.ref 37), some (.int x1), some (.int x2), some (.int x3), some (.int g273)], [])) rfl (tX5_ironAt (d + 0) g273 (x2 + 1) 19 I J 19 sp rr w nw (Or.inr rfl) g274 hg274) (fun v h hq => ?_)
    obtain ⟨rfl, rfl⟩ := hq
    refine mm_T.br (c := g274 = 0) (a := ((39, [some (.ref 37), some (.int x1), some (.int x2), some (.int x3), some (.int g273)], []), (107, I, J, mm_rf 19 sp rr w nw))) (b := ((34, [some (.ref 37), some (.int x1), some (.int x2), some (.int x3), some (.int g273)], []), (107, I, J, mm_rf 19 sp rr w nw))) rfl (fun h1978 => ?_) (fun h1978 => ?_)
    · rw [if_pos h1978] at e
      refine mm_T.seg (f' := (40, [some (.ref 37), some (.int x1), some (.int x2), some (.int x3), some (.int g273)], [(.int x3)])) (h' := (107, I, J, mm_rf 19 sp rr w nw)) 1 rfl ?_
      obtain ⟨g275, hg275⟩ : ∃ z, fJ9_abs x3 = z := ⟨_, rfl⟩
      try rw [hg275] at e
      refine mm_T.call (t := 346) (as := [(.int x3)]) (f' := (43, [some (.ref 37), some (.int x1), some (.int x2), some (.int x3), some (.int g273)], [])) rfl (tJ9_abs (d + 1) x3 I J 19 sp rr w nw g275 hg275) (fun v h hq => ?_)
      obtain ⟨rfl, rfl⟩ := hq
      refine mm_T.seg (f' := (47, [some (.ref 37), some (.int x1), some (.int x2), some (.int x3), some (.int g273)], [(.ref 38), (.int g275)])) (h' := (107, I, J, mm_rf 19 sp rr w nw)) 2 rfl ?_
      refine mm_T.seg (f' := (52, [some (.ref 37), some (.int x1), some (.int x2), some (.int x3), some (.int g273)], [(.int (x2 + 1)), (.int g273), (.ref 38), (.int g275)])) (h' := (107, I, J, mm_rf 19 sp rr w nw)) 4 rfl ?_
      obtain ⟨g276, hg276⟩ : ∃ z, fX6_cell g273 (x2 + 1) = z := ⟨_, rfl⟩
      try rw [hg276] at e
      refine mm_T.call (t := 87) (as := [(.int g273), (.int (x2 + 1))]) (f' := (55, [some (.ref 37), some (.int x1), some (.int x2), some (.int x3), some (.int g273)], [(.ref 38), (.int g275)])) rfl (tX6_cell (d + 1) g273 (x2 + 1) I J 19 sp rr w nw g276 hg276) (fun v h hq => ?_)
      obtain ⟨rfl, rfl⟩ := hq
      refine mm_T.call (t := 204) (as := [(.ref 38), (.int g276)]) (f' := (58, [some (.ref 37), some (.int x1), some (.int x2), some (.int x3), some (.int g273)], [(.int g275)])) rfl (t_pick _ 38 56 g276 I J (mm_rf 19 sp rr w nw) rfl rfl) (fun v h hq => ?_)
      obtain ⟨rfl, rfl⟩ := hq
      refine mm_T.seg (f' := (59, [some (.ref 37), some (.int x1), some (.int x2), some (.int x3), some (.int g273)], [(.int (g275 + (mf_pick I 38 56 g276)))])) (h' := (107, I, J, mm_rf 19 sp rr w nw)) 1 rfl ?_
      cases e
      exact mm_T.ret rfl ⟨rfl, rfl⟩
    · rw [if_neg h1978] at e
      refine mm_T.seg (f' := (59, [some (.ref 37), some (.int x1), some (.int x2), some (.int x3), some (.int g273)], [(.int 99)])) (h' := (107, I, J, mm_rf 19 sp rr w nw)) 2 rfl ?_
      cases e
      exact mm_T.ret rfl ⟨rfl, rfl⟩
set_option maxRecDepth 100000 in
set_option maxHeartbeats 4000000 in
theorem tlX6_fewestFrom_L6 (d : Nat) (Q : Option Value → mm_H → Prop) : ∀ (n : Nat) (y1 : Int32) (y2 : Int32) (y3 : Int32) (y4 : Int32) (I : Nat → Nat → Int32) (J : Nat → Nat → Int64) (rv sp rr w nw : Nat), (rv = 3 ∨ rv = 19) → ∀ (out : Int32), fX6_fewestFrom_L6 n y1 y2 y3 y4 I rv = some out → mm_T none (d + 3) 91 (31, [none, none, none, some (.int out), none], []) (107, I, J, mm_rf rv sp rr w nw) Q → mm_T none (d + 3) 91 (6, [some (.ref 37), some (.int y1), some (.int y2), some (.int y3), some (.int y4)], []) (107, I, J, mm_rf rv sp rr w nw) Q := by
  intro n
  induction n with
  | zero =>
    intro y1 y2 y3 y4 I J rv sp rr w nw hrv out e k
    rw [fX6_fewestFrom_L6] at e; cases e
  | succ n ih =>
    intro y1 y2 y3 y4 I J rv sp rr w nw hrv out e k
    rcases hrv with rfl | rfl
    · rw [fX6_fewestFrom_L6] at e
      refine mm_T.seg (f' := (9, [some (.ref 37), some (.int y1), some (.int y2), some (.int y3), some (.int y4)], [(.int 1), (.int y4)])) (h' := (107, I, J, mm_rf 3 sp rr w nw)) 2 rfl ?_
      refine mm_T.br (c := 1 < y4) (a := ((31, [some (.ref 37), some (.int y1), some (.int y2), some (.int y3), some (.int y4)], []), (107, I, J, mm_rf 3 sp rr w nw))) (b := ((12, [some (.ref 37), some (.int y1), some (.int y2), some (.int y3), some (.int y4)], []), (107, I, J, mm_rf 3 sp rr w nw))) rfl (fun h1979 => ?_) (fun h1979 => ?_)
      · rw [if_pos h1979] at e
        cases e
        refine mm_T.mask [false, false, false, true, false] ?_
        exact k
      · rw [if_neg h1979] at e
        refine mm_T.seg (f' := (18, [some (.ref 37), some (.int y1), some (.int y2), some (.int y3), some (.int y4)], [(.int y4), (.int y2), (.int y1), (.ref 37), (.int y3)])) (h' := (107, I, J, mm_rf 3 sp rr w nw)) 5 rfl ?_
        obtain ⟨g279, hg279⟩ : ∃ z, fX6_fewestBy y1 y2 y4 I 3 = z := ⟨_, rfl⟩
        try rw [hg279] at e
        refine mm_T.call (t := 92) (as := [(.ref 37), (.int y1), (.int y2), (.int y4)]) (f' := (21, [some (.ref 37), some (.int y1), some (.int y2), some (.int y3), some (.int y4)], [(.int y3)])) rfl (tX6_fewestBy (d + 0) y1 y2 y4 I J 3 sp rr w nw (Or.inl rfl) g279 hg279) (fun v h hq => ?_)
        obtain ⟨rfl, rfl⟩ := hq
        obtain ⟨g280, hg280⟩ : ∃ z, fJ9_min y3 g279 = z := ⟨_, rfl⟩
        try rw [hg280] at e
        refine mm_T.call (t := 348) (as := [(.int y3), (.int g279)]) (f' := (24, [some (.ref 37), some (.int y1), some (.int y2), some (.int y3), some (.int y4)], [])) rfl (tJ9_min (d + 2) y3 g279 I J 3 sp rr w nw g280 hg280) (fun v h hq => ?_)
        obtain ⟨rfl, rfl⟩ := hq
        refine mm_T.seg (f' := (6, [some (.ref 37), some (.int y1), some (.int y2), some (.int g280), some (.int (y4 + 1))], [])) (h' := (107, I, J, mm_rf 3 sp rr w nw)) 3 rfl ?_
        refine mm_T.mask [true, true, true, true, true] ?_
        exact ih y1 y2 g280 (y4 + 1) I J 3 sp rr w nw (Or.inl rfl) out e k
    · rw [fX6_fewestFrom_L6] at e
      refine mm_T.seg (f' := (9, [some (.ref 37), some (.int y1), some (.int y2), some (.int y3), some (.int y4)], [(.int 1), (.int y4)])) (h' := (107, I, J, mm_rf 19 sp rr w nw)) 2 rfl ?_
      refine mm_T.br (c := 1 < y4) (a := ((31, [some (.ref 37), some (.int y1), some (.int y2), some (.int y3), some (.int y4)], []), (107, I, J, mm_rf 19 sp rr w nw))) (b := ((12, [some (.ref 37), some (.int y1), some (.int y2), some (.int y3), some (.int y4)], []), (107, I, J, mm_rf 19 sp rr w nw))) rfl (fun h1979 => ?_) (fun h1979 => ?_)
      · rw [if_pos h1979] at e
        cases e
        refine mm_T.mask [false, false, false, true, false] ?_
        exact k
      · rw [if_neg h1979] at e
        refine mm_T.seg (f' := (18, [some (.ref 37), some (.int y1), some (.int y2), some (.int y3), some (.int y4)], [(.int y4), (.int y2), (.int y1), (.ref 37), (.int y3)])) (h' := (107, I, J, mm_rf 19 sp rr w nw)) 5 rfl ?_
        obtain ⟨g279, hg279⟩ : ∃ z, fX6_fewestBy y1 y2 y4 I 19 = z := ⟨_, rfl⟩
        try rw [hg279] at e
        refine mm_T.call (t := 92) (as := [(.ref 37), (.int y1), (.int y2), (.int y4)]) (f' := (21, [some (.ref 37), some (.int y1), some (.int y2), some (.int y3), some (.int y4)], [(.int y3)])) rfl (tX6_fewestBy (d + 0) y1 y2 y4 I J 19 sp rr w nw (Or.inr rfl) g279 hg279) (fun v h hq => ?_)
        obtain ⟨rfl, rfl⟩ := hq
        obtain ⟨g280, hg280⟩ : ∃ z, fJ9_min y3 g279 = z := ⟨_, rfl⟩
        try rw [hg280] at e
        refine mm_T.call (t := 348) (as := [(.int y3), (.int g279)]) (f' := (24, [some (.ref 37), some (.int y1), some (.int y2), some (.int y3), some (.int y4)], [])) rfl (tJ9_min (d + 2) y3 g279 I J 19 sp rr w nw g280 hg280) (fun v h hq => ?_)
        obtain ⟨rfl, rfl⟩ := hq
        refine mm_T.seg (f' := (6, [some (.ref 37), some (.int y1), some (.int y2), some (.int g280), some (.int (y4 + 1))], [])) (h' := (107, I, J, mm_rf 19 sp rr w nw)) 3 rfl ?_
        refine mm_T.mask [true, true, true, true, true] ?_
        exact ih y1 y2 g280 (y4 + 1) I J 19 sp rr w nw (Or.inr rfl) out e k
set_option maxRecDepth 100000 in
set_option maxHeartbeats 4000000 in
theorem tX6_fewestFrom (d n : Nat) (x1 : Int32) (x2 : Int32) (I : Nat → Nat → Int32) (J : Nat → Nat → Int64) (rv sp rr w nw : Nat) (hrv : rv = 3 ∨ rv = 19) (out : Int32) (e : fX6_fewestFrom n x1 x2 I rv = some out) : mm_T none (d + 3) 91 (mm_ent 91 [(.ref 37), (.int x1), (.int x2)]) (107, I, J, mm_rf rv sp rr w nw) (fun v h => v = some (.int out) ∧ h = (107, I, J, mm_rf rv sp rr w nw)) := by
  rcases hrv with rfl | rfl
  · unfold fX6_fewestFrom at e
    refine mm_T.seg (f' := (6, [some (.ref 37), some (.int x1), some (.int x2), some (.int 99), some (.int (-1))], [])) (h' := (107, I, J, mm_rf 3 sp rr w nw)) 4 rfl ?_
    refine mm_T.mask [true, true, true, true, true] ?_
    obtain ⟨o1980, eo1980, e⟩ := mm_bind e
    refine tlX6_fewestFrom_L6 d _ n x1 x2 99 (-1) I J 3 sp rr w nw (Or.inl rfl) o1980 eo1980 ?_
    refine mm_T.seg (f' := (32, [none, none, none, some (.int o1980), none], [(.int o1980)])) (h' := (107, I, J, mm_rf 3 sp rr w nw)) 1 rfl ?_
    cases e
    exact mm_T.ret rfl ⟨rfl, rfl⟩
  · unfold fX6_fewestFrom at e
    refine mm_T.seg (f' := (6, [some (.ref 37), some (.int x1), some (.int x2), some (.int 99), some (.int (-1))], [])) (h' := (107, I, J, mm_rf 19 sp rr w nw)) 4 rfl ?_
    refine mm_T.mask [true, true, true, true, true] ?_
    obtain ⟨o1980, eo1980, e⟩ := mm_bind e
    refine tlX6_fewestFrom_L6 d _ n x1 x2 99 (-1) I J 19 sp rr w nw (Or.inr rfl) o1980 eo1980 ?_
    refine mm_T.seg (f' := (32, [none, none, none, some (.int o1980), none], [(.int o1980)])) (h' := (107, I, J, mm_rf 19 sp rr w nw)) 1 rfl ?_
    cases e
    exact mm_T.ret rfl ⟨rfl, rfl⟩
set_option maxRecDepth 100000 in
set_option maxHeartbeats 4000000 in
theorem tlX6_followTable_L41 (d : Nat) (Q : Option Value → mm_H → Prop) : ∀ (n : Nat) (y3 : Int32) (y4 : Int32) (y5 : Int32) (y6 : Int32) (y7 : Int32) (I : Nat → Nat → Int32) (J : Nat → Nat → Int64) (rv sp rr w nw : Nat), (rv = 3 ∨ rv = 19) → ∀ (out : Int32), fX6_followTable_L41 n y3 y4 y5 y6 y7 I rv = some out → mm_T none (d + 3) 93 (67, [some (.ref 37), none, none, some (.int y3), some (.int y4), some (.int y5), none, some (.int out)], []) (107, I, J, mm_rf rv sp rr w nw) Q → mm_T none (d + 3) 93 (41, [some (.ref 37), none, none, some (.int y3), some (.int y4), some (.int y5), some (.int y6), some (.int y7)], []) (107, I, J, mm_rf rv sp rr w nw) Q := by
  intro n
  induction n with
  | zero =>
    intro y3 y4 y5 y6 y7 I J rv sp rr w nw hrv out e k
    rw [fX6_followTable_L41] at e; cases e
  | succ n ih =>
    intro y3 y4 y5 y6 y7 I J rv sp rr w nw hrv out e k
    rcases hrv with rfl | rfl
    · rw [fX6_followTable_L41] at e
      refine mm_T.seg (f' := (44, [some (.ref 37), none, none, some (.int y3), some (.int y4), some (.int y5), some (.int y6), some (.int y7)], [(.int 1), (.int y7)])) (h' := (107, I, J, mm_rf 3 sp rr w nw)) 2 rfl ?_
      refine mm_T.br (c := y7 < 1) (a := ((47, [some (.ref 37), none, none, some (.int y3), some (.int y4), some (.int y5), some (.int y6), some (.int y7)], []), (107, I, J, mm_rf 3 sp rr w nw))) (b := ((67, [some (.ref 37), none, none, some (.int y3), some (.int y4), some (.int y5), some (.int y6), some (.int y7)], []), (107, I, J, mm_rf 3 sp rr w nw))) rfl (fun h1988 => ?_) (fun h1988 => ?_)
      · rw [if_pos h1988] at e
        refine mm_T.seg (f' := (53, [some (.ref 37), none, none, some (.int y3), some (.int y4), some (.int y5), some (.int y6), some (.int y7)], [(.int y7), (.int y5), (.int y3), (.ref 37)])) (h' := (107, I, J, mm_rf 3 sp rr w nw)) 4 rfl ?_
        obtain ⟨g283, hg283⟩ : ∃ z, fX6_fewestBy y3 y5 y7 I 3 = z := ⟨_, rfl⟩
        try rw [hg283] at e
        refine mm_T.call (t := 92) (as := [(.ref 37), (.int y3), (.int y5), (.int y7)]) (f' := (56, [some (.ref 37), none, none, some (.int y3), some (.int y4), some (.int y5), some (.int y6), some (.int y7)], [])) rfl (tX6_fewestBy (d + 0) y3 y5 y7 I J 3 sp rr w nw (Or.inl rfl) g283 hg283) (fun v h hq => ?_)
        obtain ⟨rfl, rfl⟩ := hq
        refine mm_T.seg (f' := (58, [some (.ref 37), none, none, some (.int y3), some (.int y4), some (.int y5), some (.int y6), some (.int y7)], [(.int y6), (.int g283)])) (h' := (107, I, J, mm_rf 3 sp rr w nw)) 1 rfl ?_
        refine mm_T.br (c := g283 = y6) (a := ((67, [some (.ref 37), none, none, some (.int y3), some (.int y4), some (.int y5), some (.int y6), some (.int y7)], []), (107, I, J, mm_rf 3 sp rr w nw))) (b := ((61, [some (.ref 37), none, none, some (.int y3), some (.int y4), some (.int y5), some (.int y6), some (.int y7)], []), (107, I, J, mm_rf 3 sp rr w nw))) rfl (fun h1989 => ?_) (fun h1989 => ?_)
        · rw [if_pos h1989] at e
          cases e
          refine mm_T.mask [true, false, false, true, true, true, false, true] ?_
          exact k
        · rw [if_neg h1989] at e
          refine mm_T.seg (f' := (41, [some (.ref 37), none, none, some (.int y3), some (.int y4), some (.int y5), some (.int y6), some (.int (y7 + 1))], [])) (h' := (107, I, J, mm_rf 3 sp rr w nw)) 2 rfl ?_
          refine mm_T.mask [true, false, false, true, true, true, true, true] ?_
          exact ih y3 y4 y5 y6 (y7 + 1) I J 3 sp rr w nw (Or.inl rfl) out e k
      · rw [if_neg h1988] at e
        cases e
        refine mm_T.mask [true, false, false, true, true, true, false, true] ?_
        exact k
    · rw [fX6_followTable_L41] at e
      refine mm_T.seg (f' := (44, [some (.ref 37), none, none, some (.int y3), some (.int y4), some (.int y5), some (.int y6), some (.int y7)], [(.int 1), (.int y7)])) (h' := (107, I, J, mm_rf 19 sp rr w nw)) 2 rfl ?_
      refine mm_T.br (c := y7 < 1) (a := ((47, [some (.ref 37), none, none, some (.int y3), some (.int y4), some (.int y5), some (.int y6), some (.int y7)], []), (107, I, J, mm_rf 19 sp rr w nw))) (b := ((67, [some (.ref 37), none, none, some (.int y3), some (.int y4), some (.int y5), some (.int y6), some (.int y7)], []), (107, I, J, mm_rf 19 sp rr w nw))) rfl (fun h1988 => ?_) (fun h1988 => ?_)
      · rw [if_pos h1988] at e
        refine mm_T.seg (f' := (53, [some (.ref 37), none, none, some (.int y3), some (.int y4), some (.int y5), some (.int y6), some (.int y7)], [(.int y7), (.int y5), (.int y3), (.ref 37)])) (h' := (107, I, J, mm_rf 19 sp rr w nw)) 4 rfl ?_
        obtain ⟨g283, hg283⟩ : ∃ z, fX6_fewestBy y3 y5 y7 I 19 = z := ⟨_, rfl⟩
        try rw [hg283] at e
        refine mm_T.call (t := 92) (as := [(.ref 37), (.int y3), (.int y5), (.int y7)]) (f' := (56, [some (.ref 37), none, none, some (.int y3), some (.int y4), some (.int y5), some (.int y6), some (.int y7)], [])) rfl (tX6_fewestBy (d + 0) y3 y5 y7 I J 19 sp rr w nw (Or.inr rfl) g283 hg283) (fun v h hq => ?_)
        obtain ⟨rfl, rfl⟩ := hq
        refine mm_T.seg (f' := (58, [some (.ref 37), none, none, some (.int y3), some (.int y4), some (.int y5), some (.int y6), some (.int y7)], [(.int y6), (.int g283)])) (h' := (107, I, J, mm_rf 19 sp rr w nw)) 1 rfl ?_
        refine mm_T.br (c := g283 = y6) (a := ((67, [some (.ref 37), none, none, some (.int y3), some (.int y4), some (.int y5), some (.int y6), some (.int y7)], []), (107, I, J, mm_rf 19 sp rr w nw))) (b := ((61, [some (.ref 37), none, none, some (.int y3), some (.int y4), some (.int y5), some (.int y6), some (.int y7)], []), (107, I, J, mm_rf 19 sp rr w nw))) rfl (fun h1989 => ?_) (fun h1989 => ?_)
        · rw [if_pos h1989] at e
          cases e
          refine mm_T.mask [true, false, false, true, true, true, false, true] ?_
          exact k
        · rw [if_neg h1989] at e
          refine mm_T.seg (f' := (41, [some (.ref 37), none, none, some (.int y3), some (.int y4), some (.int y5), some (.int y6), some (.int (y7 + 1))], [])) (h' := (107, I, J, mm_rf 19 sp rr w nw)) 2 rfl ?_
          refine mm_T.mask [true, false, false, true, true, true, true, true] ?_
          exact ih y3 y4 y5 y6 (y7 + 1) I J 19 sp rr w nw (Or.inr rfl) out e k
      · rw [if_neg h1988] at e
        cases e
        refine mm_T.mask [true, false, false, true, true, true, false, true] ?_
        exact k
set_option maxRecDepth 100000 in
set_option maxHeartbeats 4000000 in
theorem tlX6_followTable_L8 (d : Nat) (Q : Option Value → mm_H → Prop) : ∀ (n : Nat) (y3 : Int32) (y4 : Int32) (y5 : Int32) (I : Nat → Nat → Int32) (J : Nat → Nat → Int64) (rv sp rr w nw : Nat), (rv = 3 ∨ rv = 19) → ∀ (out : (Nat → Nat → Int32)), fX6_followTable_L8 n y3 y4 y5 I rv = some out → mm_T none (d + 3) 93 (104, [none, none, none, none, none, none, none, none], []) (107, out, J, mm_rf rv sp rr w nw) Q → mm_T none (d + 3) 93 (8, [some (.ref 37), none, none, some (.int y3), some (.int y4), some (.int y5), none, none], []) (107, I, J, mm_rf rv sp rr w nw) Q := by
  intro n
  induction n with
  | zero =>
    intro y3 y4 y5 I J rv sp rr w nw hrv out e k
    rw [fX6_followTable_L8] at e; cases e
  | succ n ih =>
    intro y3 y4 y5 I J rv sp rr w nw hrv out e k
    rcases hrv with rfl | rfl
    · rw [fX6_followTable_L8] at e
      refine mm_T.seg (f' := (14, [some (.ref 37), none, none, some (.int y3), some (.int y4), some (.int y5), none, none], [(.ref 18), (.int y5)])) (h' := (107, I, J, mm_rf 3 sp rr w nw)) 3 rfl ?_
      refine mm_T.seg (f' := (20, [some (.ref 37), none, none, some (.int y3), some (.int y4), some (.int y5), none, none], [(.int (I 3 1)), (.int y5)])) (h' := (107, I, J, mm_rf 3 sp rr w nw)) 2 rfl ?_
      refine mm_T.br (c := y5 < (I 3 1)) (a := ((23, [some (.ref 37), none, none, some (.int y3), some (.int y4), some (.int y5), none, none], []), (107, I, J, mm_rf 3 sp rr w nw))) (b := ((104, [some (.ref 37), none, none, some (.int y3), some (.int y4), some (.int y5), none, none], []), (107, I, J, mm_rf 3 sp rr w nw))) rfl (fun h1991 => ?_) (fun h1991 => ?_)
      · rw [if_pos h1991] at e
        refine mm_T.seg (f' := (27, [some (.ref 37), none, none, some (.int y3), some (.int y4), some (.int y5), none, none], [(.ref 38)])) (h' := (107, I, J, mm_rf 3 sp rr w nw)) 2 rfl ?_
        refine mm_T.seg (f' := (30, [some (.ref 37), none, none, some (.int y3), some (.int y4), some (.int y5), none, none], [(.int y5), (.int y3), (.ref 38)])) (h' := (107, I, J, mm_rf 3 sp rr w nw)) 2 rfl ?_
        obtain ⟨g285, hg285⟩ : ∃ z, fX6_cell y3 y5 = z := ⟨_, rfl⟩
        try rw [hg285] at e
        refine mm_T.call (t := 87) (as := [(.int y3), (.int y5)]) (f' := (33, [some (.ref 37), none, none, some (.int y3), some (.int y4), some (.int y5), none, none], [(.ref 38)])) rfl (tX6_cell (d + 2) y3 y5 I J 3 sp rr w nw g285 hg285) (fun v h hq => ?_)
        obtain ⟨rfl, rfl⟩ := hq
        refine mm_T.call (t := 204) (as := [(.ref 38), (.int g285)]) (f' := (36, [some (.ref 37), none, none, some (.int y3), some (.int y4), some (.int y5), none, none], [])) rfl (t_pick _ 38 56 g285 I J (mm_rf 3 sp rr w nw) rfl rfl) (fun v h hq => ?_)
        obtain ⟨rfl, rfl⟩ := hq
        refine mm_T.seg (f' := (41, [some (.ref 37), none, none, some (.int y3), some (.int y4), some (.int y5), some (.int (mf_pick I 38 56 g285)), some (.int (-1))], [])) (h' := (107, I, J, mm_rf 3 sp rr w nw)) 3 rfl ?_
        refine mm_T.mask [true, false, false, true, true, true, true, true] ?_
        obtain ⟨o1992, eo1992, e⟩ := mm_bind e
        refine tlX6_followTable_L41 d _ n y3 y4 y5 (mf_pick I 38 56 g285) (-1) I J 3 sp rr w nw (Or.inl rfl) o1992 eo1992 ?_
        refine mm_T.seg (f' := (71, [some (.ref 37), none, none, some (.int y3), some (.int y4), some (.int y5), none, some (.int o1992)], [(.ref 41)])) (h' := (107, I, J, mm_rf 3 sp rr w nw)) 2 rfl ?_
        refine mm_T.seg (f' := (75, [some (.ref 37), none, none, some (.int y3), some (.int y4), some (.int y5), none, some (.int o1992)], [(.int o1992), (.int y4), (.ref 41)])) (h' := (107, I, J, mm_rf 3 sp rr w nw)) 2 rfl ?_
        refine mm_T.call (t := 205) (as := [(.ref 41), (.int y4), (.int o1992)]) (f' := (78, [some (.ref 37), none, none, some (.int y3), some (.int y4), some (.int y5), none, some (.int o1992)], [])) rfl (t_put _ 41 6 y4 o1992 I J (mm_rf 3 sp rr w nw) rfl rfl) (fun v h hq => ?_)
        obtain ⟨rfl, rfl⟩ := hq
        refine mm_T.seg (f' := (85, [some (.ref 37), none, none, some (.int y3), some (.int (y4 + 1)), some (.int y5), none, some (.int o1992)], [(.ref 18)])) (h' := (107, (mf_put I 41 6 y4 o1992), J, mm_rf 3 sp rr w nw)) 3 rfl ?_
        refine mm_T.seg (f' := (94, [some (.ref 37), none, none, some (.int y3), some (.int (y4 + 1)), some (.int y5), none, some (.int o1992)], [(.int 1), (.int o1992), (.int y5), (.int y3), (.ref 3)])) (h' := (107, (mf_put I 41 6 y4 o1992), J, mm_rf 3 sp rr w nw)) 5 rfl ?_
        obtain ⟨g286, hg286⟩ : ∃ z, fX5_leadsTo y3 y5 o1992 1 3 (mf_put I 41 6 y4 o1992) = z := ⟨_, rfl⟩
        try rw [hg286] at e
        refine mm_T.call (t := 81) (as := [(.ref 3), (.int y3), (.int y5), (.int o1992), (.int 1)]) (f' := (97, [some (.ref 37), none, none, some (.int y3), some (.int (y4 + 1)), some (.int y5), none, some (.int o1992)], [])) rfl (tX5_leadsTo (d + 1) y3 y5 o1992 1 3 (mf_put I 41 6 y4 o1992) J 3 sp rr w nw (Or.inl rfl) g286 hg286) (fun v h hq => ?_)
        obtain ⟨rfl, rfl⟩ := hq
        refine mm_T.seg (f' := (8, [some (.ref 37), none, none, some (.int g286), some (.int (y4 + 1)), some (.int (y5 + 1)), none, some (.int o1992)], [])) (h' := (107, (mf_put I 41 6 y4 o1992), J, mm_rf 3 sp rr w nw)) 3 rfl ?_
        refine mm_T.mask [true, false, false, true, true, true, false, false] ?_
        exact ih g286 (y4 + 1) (y5 + 1) (mf_put I 41 6 y4 o1992) J 3 sp rr w nw (Or.inl rfl) out e k
      · rw [if_neg h1991] at e
        cases e
        refine mm_T.mask [false, false, false, false, false, false, false, false] ?_
        exact k
    · rw [fX6_followTable_L8] at e
      refine mm_T.seg (f' := (14, [some (.ref 37), none, none, some (.int y3), some (.int y4), some (.int y5), none, none], [(.ref 18), (.int y5)])) (h' := (107, I, J, mm_rf 19 sp rr w nw)) 3 rfl ?_
      refine mm_T.seg (f' := (20, [some (.ref 37), none, none, some (.int y3), some (.int y4), some (.int y5), none, none], [(.int (I 19 1)), (.int y5)])) (h' := (107, I, J, mm_rf 19 sp rr w nw)) 2 rfl ?_
      refine mm_T.br (c := y5 < (I 19 1)) (a := ((23, [some (.ref 37), none, none, some (.int y3), some (.int y4), some (.int y5), none, none], []), (107, I, J, mm_rf 19 sp rr w nw))) (b := ((104, [some (.ref 37), none, none, some (.int y3), some (.int y4), some (.int y5), none, none], []), (107, I, J, mm_rf 19 sp rr w nw))) rfl (fun h1991 => ?_) (fun h1991 => ?_)
      · rw [if_pos h1991] at e
        refine mm_T.seg (f' := (27, [some (.ref 37), none, none, some (.int y3), some (.int y4), some (.int y5), none, none], [(.ref 38)])) (h' := (107, I, J, mm_rf 19 sp rr w nw)) 2 rfl ?_
        refine mm_T.seg (f' := (30, [some (.ref 37), none, none, some (.int y3), some (.int y4), some (.int y5), none, none], [(.int y5), (.int y3), (.ref 38)])) (h' := (107, I, J, mm_rf 19 sp rr w nw)) 2 rfl ?_
        obtain ⟨g285, hg285⟩ : ∃ z, fX6_cell y3 y5 = z := ⟨_, rfl⟩
        try rw [hg285] at e
        refine mm_T.call (t := 87) (as := [(.int y3), (.int y5)]) (f' := (33, [some (.ref 37), none, none, some (.int y3), some (.int y4), some (.int y5), none, none], [(.ref 38)])) rfl (tX6_cell (d + 2) y3 y5 I J 19 sp rr w nw g285 hg285) (fun v h hq => ?_)
        obtain ⟨rfl, rfl⟩ := hq
        refine mm_T.call (t := 204) (as := [(.ref 38), (.int g285)]) (f' := (36, [some (.ref 37), none, none, some (.int y3), some (.int y4), some (.int y5), none, none], [])) rfl (t_pick _ 38 56 g285 I J (mm_rf 19 sp rr w nw) rfl rfl) (fun v h hq => ?_)
        obtain ⟨rfl, rfl⟩ := hq
        refine mm_T.seg (f' := (41, [some (.ref 37), none, none, some (.int y3), some (.int y4), some (.int y5), some (.int (mf_pick I 38 56 g285)), some (.int (-1))], [])) (h' := (107, I, J, mm_rf 19 sp rr w nw)) 3 rfl ?_
        refine mm_T.mask [true, false, false, true, true, true, true, true] ?_
        obtain ⟨o1992, eo1992, e⟩ := mm_bind e
        refine tlX6_followTable_L41 d _ n y3 y4 y5 (mf_pick I 38 56 g285) (-1) I J 19 sp rr w nw (Or.inr rfl) o1992 eo1992 ?_
        refine mm_T.seg (f' := (71, [some (.ref 37), none, none, some (.int y3), some (.int y4), some (.int y5), none, some (.int o1992)], [(.ref 41)])) (h' := (107, I, J, mm_rf 19 sp rr w nw)) 2 rfl ?_
        refine mm_T.seg (f' := (75, [some (.ref 37), none, none, some (.int y3), some (.int y4), some (.int y5), none, some (.int o1992)], [(.int o1992), (.int y4), (.ref 41)])) (h' := (107, I, J, mm_rf 19 sp rr w nw)) 2 rfl ?_
        refine mm_T.call (t := 205) (as := [(.ref 41), (.int y4), (.int o1992)]) (f' := (78, [some (.ref 37), none, none, some (.int y3), some (.int y4), some (.int y5), none, some (.int o1992)], [])) rfl (t_put _ 41 6 y4 o1992 I J (mm_rf 19 sp rr w nw) rfl rfl) (fun v h hq => ?_)
        obtain ⟨rfl, rfl⟩ := hq
        refine mm_T.seg (f' := (85, [some (.ref 37), none, none, some (.int y3), some (.int (y4 + 1)), some (.int y5), none, some (.int o1992)], [(.ref 18)])) (h' := (107, (mf_put I 41 6 y4 o1992), J, mm_rf 19 sp rr w nw)) 3 rfl ?_
        refine mm_T.seg (f' := (94, [some (.ref 37), none, none, some (.int y3), some (.int (y4 + 1)), some (.int y5), none, some (.int o1992)], [(.int 1), (.int o1992), (.int y5), (.int y3), (.ref 19)])) (h' := (107, (mf_put I 41 6 y4 o1992), J, mm_rf 19 sp rr w nw)) 5 rfl ?_
        obtain ⟨g286, hg286⟩ : ∃ z, fX5_leadsTo y3 y5 o1992 1 19 (mf_put I 41 6 y4 o1992) = z := ⟨_, rfl⟩
        try rw [hg286] at e
        refine mm_T.call (t := 81) (as := [(.ref 19), (.int y3), (.int y5), (.int o1992), (.int 1)]) (f' := (97, [some (.ref 37), none, none, some (.int y3), some (.int (y4 + 1)), some (.int y5), none, some (.int o1992)], [])) rfl (tX5_leadsTo (d + 1) y3 y5 o1992 1 19 (mf_put I 41 6 y4 o1992) J 19 sp rr w nw (Or.inr rfl) g286 hg286) (fun v h hq => ?_)
        obtain ⟨rfl, rfl⟩ := hq
        refine mm_T.seg (f' := (8, [some (.ref 37), none, none, some (.int g286), some (.int (y4 + 1)), some (.int (y5 + 1)), none, some (.int o1992)], [])) (h' := (107, (mf_put I 41 6 y4 o1992), J, mm_rf 19 sp rr w nw)) 3 rfl ?_
        refine mm_T.mask [true, false, false, true, true, true, false, false] ?_
        exact ih g286 (y4 + 1) (y5 + 1) (mf_put I 41 6 y4 o1992) J 19 sp rr w nw (Or.inr rfl) out e k
      · rw [if_neg h1991] at e
        cases e
        refine mm_T.mask [false, false, false, false, false, false, false, false] ?_
        exact k
set_option maxRecDepth 100000 in
set_option maxHeartbeats 4000000 in
theorem tX6_followTable (d n : Nat) (x1 : Int32) (x2 : Int32) (I : Nat → Nat → Int32) (J : Nat → Nat → Int64) (rv sp rr w nw : Nat) (hrv : rv = 3 ∨ rv = 19) (out : (Nat → Nat → Int32)) (e : fX6_followTable n x1 x2 I rv = some out) : mm_T none (d + 3) 93 (mm_ent 93 [(.ref 37), (.int x1), (.int x2)]) (107, I, J, mm_rf rv sp rr w nw) (fun v h => v = none ∧ h = (107, out, J, mm_rf rv sp rr w nw)) := by
  rcases hrv with rfl | rfl
  · unfold fX6_followTable at e
    refine mm_T.seg (f' := (8, [some (.ref 37), some (.int x1), some (.int x2), some (.int x1), some (.int 0), some (.int x2), none, none], [])) (h' := (107, I, J, mm_rf 3 sp rr w nw)) 6 rfl ?_
    refine mm_T.mask [true, false, false, true, true, true, false, false] ?_
    obtain ⟨o1993, eo1993, e⟩ := mm_bind e
    refine tlX6_followTable_L8 d _ n x1 0 x2 I J 3 sp rr w nw (Or.inl rfl) o1993 eo1993 ?_
    cases e
    exact mm_T.ret rfl ⟨rfl, rfl⟩
  · unfold fX6_followTable at e
    refine mm_T.seg (f' := (8, [some (.ref 37), some (.int x1), some (.int x2), some (.int x1), some (.int 0), some (.int x2), none, none], [])) (h' := (107, I, J, mm_rf 19 sp rr w nw)) 6 rfl ?_
    refine mm_T.mask [true, false, false, true, true, true, false, false] ?_
    obtain ⟨o1993, eo1993, e⟩ := mm_bind e
    refine tlX6_followTable_L8 d _ n x1 0 x2 I J 19 sp rr w nw (Or.inr rfl) o1993 eo1993 ?_
    cases e
    exact mm_T.ret rfl ⟨rfl, rfl⟩
set_option maxRecDepth 100000 in
set_option maxHeartbeats 4000000 in
theorem tlX6_findStraightest_L11 (d : Nat) (Q : Option Value → mm_H → Prop) : ∀ (n : Nat) (y1 : Int32) (y2 : Int32) (y4 : Int32) (I : Nat → Nat → Int32) (J : Nat → Nat → Int64) (rv sp rr w nw : Nat), (rv = 3 ∨ rv = 19) → ∀ (out : (Nat → Nat → Int32)), fX6_findStraightest_L11 n y1 y2 y4 I rv = some out → mm_T none (d + 4) 90 (54, [some (.ref 37), some (.int y1), none, some (.ref rv), none, none], []) (107, out, J, mm_rf rv sp rr w nw) Q → mm_T none (d + 4) 90 (11, [some (.ref 37), some (.int y1), some (.int y2), some (.ref rv), some (.int y4), none], []) (107, I, J, mm_rf rv sp rr w nw) Q := by
  intro n
  induction n with
  | zero =>
    intro y1 y2 y4 I J rv sp rr w nw hrv out e k
    rw [fX6_findStraightest_L11] at e; cases e
  | succ n ih =>
    intro y1 y2 y4 I J rv sp rr w nw hrv out e k
    rcases hrv with rfl | rfl
    · rw [fX6_findStraightest_L11] at e
      refine mm_T.seg (f' := (17, [some (.ref 37), some (.int y1), some (.int y2), some (.ref 3), some (.int y4), none], [(.int (I 3 0)), (.int y4)])) (h' := (107, I, J, mm_rf 3 sp rr w nw)) 3 rfl ?_
      refine mm_T.br (c := y4 < (I 3 0)) (a := ((20, [some (.ref 37), some (.int y1), some (.int y2), some (.ref 3), some (.int y4), none], []), (107, I, J, mm_rf 3 sp rr w nw))) (b := ((54, [some (.ref 37), some (.int y1), some (.int y2), some (.ref 3), some (.int y4), none], []), (107, I, J, mm_rf 3 sp rr w nw))) rfl (fun h1972 => ?_) (fun h1972 => ?_)
      · rw [if_pos h1972] at e
        refine mm_T.seg (f' := (24, [some (.ref 37), some (.int y1), some (.int y2), some (.ref 3), some (.int y4), none], [(.ref 38)])) (h' := (107, I, J, mm_rf 3 sp rr w nw)) 2 rfl ?_
        refine mm_T.seg (f' := (30, [some (.ref 37), some (.int y1), some (.int y2), some (.ref 3), some (.int y4), none], [(.int (I 3 1)), (.int y4), (.ref 38)])) (h' := (107, I, J, mm_rf 3 sp rr w nw)) 3 rfl ?_
        refine mm_T.call (t := 87) (as := [(.int y4), (.int (I 3 1))]) (f' := (33, [some (.ref 37), some (.int y1), some (.int y2), some (.ref 3), some (.int y4), none], [(.ref 38)])) rfl (tX6_cell (d + 3) y4 (I 3 1) I J 3 sp rr w nw _ rfl) (fun v h hq => ?_)
        obtain ⟨rfl, rfl⟩ := hq
        refine mm_T.seg (f' := (36, [some (.ref 37), some (.int y1), some (.int y2), some (.ref 3), some (.int y4), none], [(.int y2), (.int y4), (.int (fX6_cell y4 (I 3 1))), (.ref 38)])) (h' := (107, I, J, mm_rf 3 sp rr w nw)) 2 rfl ?_
        refine mm_T.br (c := y4 = y2) (a := ((39, [some (.ref 37), some (.int y1), some (.int y2), some (.ref 3), some (.int y4), none], [(.int (fX6_cell y4 (I 3 1))), (.ref 38)]), (107, I, J, mm_rf 3 sp rr w nw))) (b := ((43, [some (.ref 37), some (.int y1), some (.int y2), some (.ref 3), some (.int y4), none], [(.int (fX6_cell y4 (I 3 1))), (.ref 38)]), (107, I, J, mm_rf 3 sp rr w nw))) rfl (fun h1973 => ?_) (fun h1973 => ?_)
        · rw [if_pos h1973] at e
          refine mm_T.seg (f' := (45, [some (.ref 37), some (.int y1), some (.int y2), some (.ref 3), some (.int y4), none], [(.int 0), (.int (fX6_cell y4 (I 3 1))), (.ref 38)])) (h' := (107, I, J, mm_rf 3 sp rr w nw)) 2 rfl ?_
          refine mm_T.call (t := 205) (as := [(.ref 38), (.int (fX6_cell y4 (I 3 1))), (.int 0)]) (f' := (48, [some (.ref 37), some (.int y1), some (.int y2), some (.ref 3), some (.int y4), none], [])) rfl (t_put _ 38 56 (fX6_cell y4 (I 3 1)) 0 I J (mm_rf 3 sp rr w nw) rfl rfl) (fun v h hq => ?_)
          obtain ⟨rfl, rfl⟩ := hq
          refine mm_T.seg (f' := (11, [some (.ref 37), some (.int y1), some (.int y2), some (.ref 3), some (.int (y4 + 1)), none], [])) (h' := (107, (mf_put I 38 56 (fX6_cell y4 (I 3 1)) 0), J, mm_rf 3 sp rr w nw)) 2 rfl ?_
          refine mm_T.mask [true, true, true, true, true, false] ?_
          exact ih y1 y2 (y4 + 1) (mf_put I 38 56 (fX6_cell y4 (I 3 1)) 0) J 3 sp rr w nw (Or.inl rfl) out e k
        · rw [if_neg h1973] at e
          refine mm_T.seg (f' := (45, [some (.ref 37), some (.int y1), some (.int y2), some (.ref 3), some (.int y4), none], [(.int 99), (.int (fX6_cell y4 (I 3 1))), (.ref 38)])) (h' := (107, I, J, mm_rf 3 sp rr w nw)) 1 rfl ?_
          refine mm_T.call (t := 205) (as := [(.ref 38), (.int (fX6_cell y4 (I 3 1))), (.int 99)]) (f' := (48, [some (.ref 37), some (.int y1), some (.int y2), some (.ref 3), some (.int y4), none], [])) rfl (t_put _ 38 56 (fX6_cell y4 (I 3 1)) 99 I J (mm_rf 3 sp rr w nw) rfl rfl) (fun v h hq => ?_)
          obtain ⟨rfl, rfl⟩ := hq
          refine mm_T.seg (f' := (11, [some (.ref 37), some (.int y1), some (.int y2), some (.ref 3), some (.int (y4 + 1)), none], [])) (h' := (107, (mf_put I 38 56 (fX6_cell y4 (I 3 1)) 99), J, mm_rf 3 sp rr w nw)) 2 rfl ?_
          refine mm_T.mask [true, true, true, true, true, false] ?_
          exact ih y1 y2 (y4 + 1) (mf_put I 38 56 (fX6_cell y4 (I 3 1)) 99) J 3 sp rr w nw (Or.inl rfl) out e k
      · rw [if_neg h1972] at e
        cases e
        refine mm_T.mask [true, true, false, true, false, false] ?_
        exact k
    · rw [fX6_findStraightest_L11] at e
      refine mm_T.seg (f' := (17, [some (.ref 37), some (.int y1), some (.int y2), some (.ref 19), some (.int y4), none], [(.int (I 19 0)), (.int y4)])) (h' := (107, I, J, mm_rf 19 sp rr w nw)) 3 rfl ?_
      refine mm_T.br (c := y4 < (I 19 0)) (a := ((20, [some (.ref 37), some (.int y1), some (.int y2), some (.ref 19), some (.int y4), none], []), (107, I, J, mm_rf 19 sp rr w nw))) (b := ((54, [some (.ref 37), some (.int y1), some (.int y2), some (.ref 19), some (.int y4), none], []), (107, I, J, mm_rf 19 sp rr w nw))) rfl (fun h1972 => ?_) (fun h1972 => ?_)
      · rw [if_pos h1972] at e
        refine mm_T.seg (f' := (24, [some (.ref 37), some (.int y1), some (.int y2), some (.ref 19), some (.int y4), none], [(.ref 38)])) (h' := (107, I, J, mm_rf 19 sp rr w nw)) 2 rfl ?_
        refine mm_T.seg (f' := (30, [some (.ref 37), some (.int y1), some (.int y2), some (.ref 19), some (.int y4), none], [(.int (I 19 1)), (.int y4), (.ref 38)])) (h' := (107, I, J, mm_rf 19 sp rr w nw)) 3 rfl ?_
        refine mm_T.call (t := 87) (as := [(.int y4), (.int (I 19 1))]) (f' := (33, [some (.ref 37), some (.int y1), some (.int y2), some (.ref 19), some (.int y4), none], [(.ref 38)])) rfl (tX6_cell (d + 3) y4 (I 19 1) I J 19 sp rr w nw _ rfl) (fun v h hq => ?_)
        obtain ⟨rfl, rfl⟩ := hq
        refine mm_T.seg (f' := (36, [some (.ref 37), some (.int y1), some (.int y2), some (.ref 19), some (.int y4), none], [(.int y2), (.int y4), (.int (fX6_cell y4 (I 19 1))), (.ref 38)])) (h' := (107, I, J, mm_rf 19 sp rr w nw)) 2 rfl ?_
        refine mm_T.br (c := y4 = y2) (a := ((39, [some (.ref 37), some (.int y1), some (.int y2), some (.ref 19), some (.int y4), none], [(.int (fX6_cell y4 (I 19 1))), (.ref 38)]), (107, I, J, mm_rf 19 sp rr w nw))) (b := ((43, [some (.ref 37), some (.int y1), some (.int y2), some (.ref 19), some (.int y4), none], [(.int (fX6_cell y4 (I 19 1))), (.ref 38)]), (107, I, J, mm_rf 19 sp rr w nw))) rfl (fun h1973 => ?_) (fun h1973 => ?_)
        · rw [if_pos h1973] at e
          refine mm_T.seg (f' := (45, [some (.ref 37), some (.int y1), some (.int y2), some (.ref 19), some (.int y4), none], [(.int 0), (.int (fX6_cell y4 (I 19 1))), (.ref 38)])) (h' := (107, I, J, mm_rf 19 sp rr w nw)) 2 rfl ?_
          refine mm_T.call (t := 205) (as := [(.ref 38), (.int (fX6_cell y4 (I 19 1))), (.int 0)]) (f' := (48, [some (.ref 37), some (.int y1), some (.int y2), some (.ref 19), some (.int y4), none], [])) rfl (t_put _ 38 56 (fX6_cell y4 (I 19 1)) 0 I J (mm_rf 19 sp rr w nw) rfl rfl) (fun v h hq => ?_)
          obtain ⟨rfl, rfl⟩ := hq
          refine mm_T.seg (f' := (11, [some (.ref 37), some (.int y1), some (.int y2), some (.ref 19), some (.int (y4 + 1)), none], [])) (h' := (107, (mf_put I 38 56 (fX6_cell y4 (I 19 1)) 0), J, mm_rf 19 sp rr w nw)) 2 rfl ?_
          refine mm_T.mask [true, true, true, true, true, false] ?_
          exact ih y1 y2 (y4 + 1) (mf_put I 38 56 (fX6_cell y4 (I 19 1)) 0) J 19 sp rr w nw (Or.inr rfl) out e k
        · rw [if_neg h1973] at e
          refine mm_T.seg (f' := (45, [some (.ref 37), some (.int y1), some (.int y2), some (.ref 19), some (.int y4), none], [(.int 99), (.int (fX6_cell y4 (I 19 1))), (.ref 38)])) (h' := (107, I, J, mm_rf 19 sp rr w nw)) 1 rfl ?_
          refine mm_T.call (t := 205) (as := [(.ref 38), (.int (fX6_cell y4 (I 19 1))), (.int 99)]) (f' := (48, [some (.ref 37), some (.int y1), some (.int y2), some (.ref 19), some (.int y4), none], [])) rfl (t_put _ 38 56 (fX6_cell y4 (I 19 1)) 99 I J (mm_rf 19 sp rr w nw) rfl rfl) (fun v h hq => ?_)
          obtain ⟨rfl, rfl⟩ := hq
          refine mm_T.seg (f' := (11, [some (.ref 37), some (.int y1), some (.int y2), some (.ref 19), some (.int (y4 + 1)), none], [])) (h' := (107, (mf_put I 38 56 (fX6_cell y4 (I 19 1)) 99), J, mm_rf 19 sp rr w nw)) 2 rfl ?_
          refine mm_T.mask [true, true, true, true, true, false] ?_
          exact ih y1 y2 (y4 + 1) (mf_put I 38 56 (fX6_cell y4 (I 19 1)) 99) J 19 sp rr w nw (Or.inr rfl) out e k
      · rw [if_neg h1972] at e
        cases e
        refine mm_T.mask [true, true, false, true, false, false] ?_
        exact k
set_option maxRecDepth 100000 in
set_option maxHeartbeats 4000000 in
theorem tlX6_findStraightest_L78 (d : Nat) (Q : Option Value → mm_H → Prop) : ∀ (n : Nat) (y1 : Int32) (y4 : Int32) (y5 : Int32) (I : Nat → Nat → Int32) (J : Nat → Nat → Int64) (rv sp rr w nw : Nat), (rv = 3 ∨ rv = 19) → ∀ (out : (Nat → Nat → Int32)), fX6_findStraightest_L78 n y1 y4 y5 I rv = some out → mm_T none (d + 4) 90 (115, [some (.ref 37), some (.int y1), none, some (.ref rv), some (.int y4), none], []) (107, out, J, mm_rf rv sp rr w nw) Q → mm_T none (d + 4) 90 (78, [some (.ref 37), some (.int y1), none, some (.ref rv), some (.int y4), some (.int y5)], []) (107, I, J, mm_rf rv sp rr w nw) Q := by
  intro n
  induction n with
  | zero =>
    intro y1 y4 y5 I J rv sp rr w nw hrv out e k
    rw [fX6_findStraightest_L78] at e; cases e
  | succ n ih =>
    intro y1 y4 y5 I J rv sp rr w nw hrv out e k
    rcases hrv with rfl | rfl
    · rw [fX6_findStraightest_L78] at e
      refine mm_T.seg (f' := (84, [some (.ref 37), some (.int y1), none, some (.ref 3), some (.int y4), some (.int y5)], [(.int (I 3 0)), (.int y5)])) (h' := (107, I, J, mm_rf 3 sp rr w nw)) 3 rfl ?_
      refine mm_T.br (c := y5 < (I 3 0)) (a := ((87, [some (.ref 37), some (.int y1), none, some (.ref 3), some (.int y4), some (.int y5)], []), (107, I, J, mm_rf 3 sp rr w nw))) (b := ((115, [some (.ref 37), some (.int y1), none, some (.ref 3), some (.int y4), some (.int y5)], []), (107, I, J, mm_rf 3 sp rr w nw))) rfl (fun h1976 => ?_) (fun h1976 => ?_)
      · rw [if_pos h1976] at e
        refine mm_T.seg (f' := (91, [some (.ref 37), some (.int y1), none, some (.ref 3), some (.int y4), some (.int y5)], [(.ref 38)])) (h' := (107, I, J, mm_rf 3 sp rr w nw)) 2 rfl ?_
        refine mm_T.seg (f' := (95, [some (.ref 37), some (.int y1), none, some (.ref 3), some (.int y4), some (.int y5)], [(.int y4), (.int y5), (.ref 38)])) (h' := (107, I, J, mm_rf 3 sp rr w nw)) 2 rfl ?_
        refine mm_T.call (t := 87) (as := [(.int y5), (.int y4)]) (f' := (98, [some (.ref 37), some (.int y1), none, some (.ref 3), some (.int y4), some (.int y5)], [(.ref 38)])) rfl (tX6_cell (d + 3) y5 y4 I J 3 sp rr w nw _ rfl) (fun v h hq => ?_)
        obtain ⟨rfl, rfl⟩ := hq
        refine mm_T.seg (f' := (103, [some (.ref 37), some (.int y1), none, some (.ref 3), some (.int y4), some (.int y5)], [(.int y4), (.int y5), (.ref 37), (.int (fX6_cell y5 y4)), (.ref 38)])) (h' := (107, I, J, mm_rf 3 sp rr w nw)) 3 rfl ?_
        obtain ⟨o1981, eo1981, e⟩ := mm_bind e
        refine mm_T.call (t := 91) (as := [(.ref 37), (.int y5), (.int y4)]) (f' := (106, [some (.ref 37), some (.int y1), none, some (.ref 3), some (.int y4), some (.int y5)], [(.int (fX6_cell y5 y4)), (.ref 38)])) rfl (tX6_fewestFrom (d + 0) n y5 y4 I J 3 sp rr w nw (Or.inl rfl) o1981 eo1981) (fun v h hq => ?_)
        obtain ⟨rfl, rfl⟩ := hq
        refine mm_T.call (t := 205) (as := [(.ref 38), (.int (fX6_cell y5 y4)), (.int o1981)]) (f' := (109, [some (.ref 37), some (.int y1), none, some (.ref 3), some (.int y4), some (.int y5)], [])) rfl (t_put _ 38 56 (fX6_cell y5 y4) o1981 I J (mm_rf 3 sp rr w nw) rfl rfl) (fun v h hq => ?_)
        obtain ⟨rfl, rfl⟩ := hq
        refine mm_T.seg (f' := (78, [some (.ref 37), some (.int y1), none, some (.ref 3), some (.int y4), some (.int (y5 + 1))], [])) (h' := (107, (mf_put I 38 56 (fX6_cell y5 y4) o1981), J, mm_rf 3 sp rr w nw)) 2 rfl ?_
        refine mm_T.mask [true, true, false, true, true, true] ?_
        exact ih y1 y4 (y5 + 1) (mf_put I 38 56 (fX6_cell y5 y4) o1981) J 3 sp rr w nw (Or.inl rfl) out e k
      · rw [if_neg h1976] at e
        cases e
        refine mm_T.mask [true, true, false, true, true, false] ?_
        exact k
    · rw [fX6_findStraightest_L78] at e
      refine mm_T.seg (f' := (84, [some (.ref 37), some (.int y1), none, some (.ref 19), some (.int y4), some (.int y5)], [(.int (I 19 0)), (.int y5)])) (h' := (107, I, J, mm_rf 19 sp rr w nw)) 3 rfl ?_
      refine mm_T.br (c := y5 < (I 19 0)) (a := ((87, [some (.ref 37), some (.int y1), none, some (.ref 19), some (.int y4), some (.int y5)], []), (107, I, J, mm_rf 19 sp rr w nw))) (b := ((115, [some (.ref 37), some (.int y1), none, some (.ref 19), some (.int y4), some (.int y5)], []), (107, I, J, mm_rf 19 sp rr w nw))) rfl (fun h1976 => ?_) (fun h1976 => ?_)
      · rw [if_pos h1976] at e
        refine mm_T.seg (f' := (91, [some (.ref 37), some (.int y1), none, some (.ref 19), some (.int y4), some (.int y5)], [(.ref 38)])) (h' := (107, I, J, mm_rf 19 sp rr w nw)) 2 rfl ?_
        refine mm_T.seg (f' := (95, [some (.ref 37), some (.int y1), none, some (.ref 19), some (.int y4), some (.int y5)], [(.int y4), (.int y5), (.ref 38)])) (h' := (107, I, J, mm_rf 19 sp rr w nw)) 2 rfl ?_
        refine mm_T.call (t := 87) (as := [(.int y5), (.int y4)]) (f' := (98, [some (.ref 37), some (.int y1), none, some (.ref 19), some (.int y4), some (.int y5)], [(.ref 38)])) rfl (tX6_cell (d + 3) y5 y4 I J 19 sp rr w nw _ rfl) (fun v h hq => ?_)
        obtain ⟨rfl, rfl⟩ := hq
        refine mm_T.seg (f' := (103, [some (.ref 37), some (.int y1), none, some (.ref 19), some (.int y4), some (.int y5)], [(.int y4), (.int y5), (.ref 37), (.int (fX6_cell y5 y4)), (.ref 38)])) (h' := (107, I, J, mm_rf 19 sp rr w nw)) 3 rfl ?_
        obtain ⟨o1981, eo1981, e⟩ := mm_bind e
        refine mm_T.call (t := 91) (as := [(.ref 37), (.int y5), (.int y4)]) (f' := (106, [some (.ref 37), some (.int y1), none, some (.ref 19), some (.int y4), some (.int y5)], [(.int (fX6_cell y5 y4)), (.ref 38)])) rfl (tX6_fewestFrom (d + 0) n y5 y4 I J 19 sp rr w nw (Or.inr rfl) o1981 eo1981) (fun v h hq => ?_)
        obtain ⟨rfl, rfl⟩ := hq
        refine mm_T.call (t := 205) (as := [(.ref 38), (.int (fX6_cell y5 y4)), (.int o1981)]) (f' := (109, [some (.ref 37), some (.int y1), none, some (.ref 19), some (.int y4), some (.int y5)], [])) rfl (t_put _ 38 56 (fX6_cell y5 y4) o1981 I J (mm_rf 19 sp rr w nw) rfl rfl) (fun v h hq => ?_)
        obtain ⟨rfl, rfl⟩ := hq
        refine mm_T.seg (f' := (78, [some (.ref 37), some (.int y1), none, some (.ref 19), some (.int y4), some (.int (y5 + 1))], [])) (h' := (107, (mf_put I 38 56 (fX6_cell y5 y4) o1981), J, mm_rf 19 sp rr w nw)) 2 rfl ?_
        refine mm_T.mask [true, true, false, true, true, true] ?_
        exact ih y1 y4 (y5 + 1) (mf_put I 38 56 (fX6_cell y5 y4) o1981) J 19 sp rr w nw (Or.inr rfl) out e k
      · rw [if_neg h1976] at e
        cases e
        refine mm_T.mask [true, true, false, true, true, false] ?_
        exact k
set_option maxRecDepth 100000 in
set_option maxHeartbeats 4000000 in
theorem tlX6_findStraightest_L62 (d : Nat) (Q : Option Value → mm_H → Prop) : ∀ (n : Nat) (y1 : Int32) (y4 : Int32) (I : Nat → Nat → Int32) (J : Nat → Nat → Int64) (rv sp rr w nw : Nat), (rv = 3 ∨ rv = 19) → ∀ (out : (Nat → Nat → Int32)), fX6_findStraightest_L62 n y1 y4 I rv = some out → mm_T none (d + 4) 90 (121, [some (.ref 37), some (.int y1), none, none, none, none], []) (107, out, J, mm_rf rv sp rr w nw) Q → mm_T none (d + 4) 90 (62, [some (.ref 37), some (.int y1), none, some (.ref rv), some (.int y4), none], []) (107, I, J, mm_rf rv sp rr w nw) Q := by
  intro n
  induction n with
  | zero =>
    intro y1 y4 I J rv sp rr w nw hrv out e k
    rw [fX6_findStraightest_L62] at e; cases e
  | succ n ih =>
    intro y1 y4 I J rv sp rr w nw hrv out e k
    rcases hrv with rfl | rfl
    · rw [fX6_findStraightest_L62] at e
      refine mm_T.seg (f' := (68, [some (.ref 37), some (.int y1), none, some (.ref 3), some (.int y4), none], [(.ref 18), (.int y4)])) (h' := (107, I, J, mm_rf 3 sp rr w nw)) 3 rfl ?_
      refine mm_T.seg (f' := (69, [some (.ref 37), some (.int y1), none, some (.ref 3), some (.int y4), none], [(.int y1), (.ref 18), (.int y4)])) (h' := (107, I, J, mm_rf 3 sp rr w nw)) 1 rfl ?_
      refine mm_T.call (t := 106) (as := [(.ref 18), (.int y1)]) (f' := (72, [some (.ref 37), some (.int y1), none, some (.ref 3), some (.int y4), none], [(.int y4)])) rfl (tX7_rowOf (d + 1) y1 I J 3 sp rr w nw _ rfl) (fun v h hq => ?_)
      obtain ⟨rfl, rfl⟩ := hq
      refine mm_T.br (c := y4 < (fX7_rowOf y1 I)) (a := ((121, [some (.ref 37), some (.int y1), none, some (.ref 3), some (.int y4), none], []), (107, I, J, mm_rf 3 sp rr w nw))) (b := ((75, [some (.ref 37), some (.int y1), none, some (.ref 3), some (.int y4), none], []), (107, I, J, mm_rf 3 sp rr w nw))) rfl (fun h1975 => ?_) (fun h1975 => ?_)
      · rw [if_pos h1975] at e
        cases e
        refine mm_T.mask [true, true, false, false, false, false] ?_
        exact k
      · rw [if_neg h1975] at e
        refine mm_T.seg (f' := (78, [some (.ref 37), some (.int y1), none, some (.ref 3), some (.int y4), some (.int 0)], [])) (h' := (107, I, J, mm_rf 3 sp rr w nw)) 2 rfl ?_
        refine mm_T.mask [true, true, false, true, true, true] ?_
        obtain ⟨o1982, eo1982, e⟩ := mm_bind e
        refine tlX6_findStraightest_L78 d _ n y1 y4 0 I J 3 sp rr w nw (Or.inl rfl) o1982 eo1982 ?_
        refine mm_T.seg (f' := (62, [some (.ref 37), some (.int y1), none, some (.ref 3), some (.int (y4 + (-1))), none], [])) (h' := (107, o1982, J, mm_rf 3 sp rr w nw)) 2 rfl ?_
        refine mm_T.mask [true, true, false, true, true, false] ?_
        exact ih y1 (y4 + (-1)) o1982 J 3 sp rr w nw (Or.inl rfl) out e k
    · rw [fX6_findStraightest_L62] at e
      refine mm_T.seg (f' := (68, [some (.ref 37), some (.int y1), none, some (.ref 19), some (.int y4), none], [(.ref 18), (.int y4)])) (h' := (107, I, J, mm_rf 19 sp rr w nw)) 3 rfl ?_
      refine mm_T.seg (f' := (69, [some (.ref 37), some (.int y1), none, some (.ref 19), some (.int y4), none], [(.int y1), (.ref 18), (.int y4)])) (h' := (107, I, J, mm_rf 19 sp rr w nw)) 1 rfl ?_
      refine mm_T.call (t := 106) (as := [(.ref 18), (.int y1)]) (f' := (72, [some (.ref 37), some (.int y1), none, some (.ref 19), some (.int y4), none], [(.int y4)])) rfl (tX7_rowOf (d + 1) y1 I J 19 sp rr w nw _ rfl) (fun v h hq => ?_)
      obtain ⟨rfl, rfl⟩ := hq
      refine mm_T.br (c := y4 < (fX7_rowOf y1 I)) (a := ((121, [some (.ref 37), some (.int y1), none, some (.ref 19), some (.int y4), none], []), (107, I, J, mm_rf 19 sp rr w nw))) (b := ((75, [some (.ref 37), some (.int y1), none, some (.ref 19), some (.int y4), none], []), (107, I, J, mm_rf 19 sp rr w nw))) rfl (fun h1975 => ?_) (fun h1975 => ?_)
      · rw [if_pos h1975] at e
        cases e
        refine mm_T.mask [true, true, false, false, false, false] ?_
        exact k
      · rw [if_neg h1975] at e
        refine mm_T.seg (f' := (78, [some (.ref 37), some (.int y1), none, some (.ref 19), some (.int y4), some (.int 0)], [])) (h' := (107, I, J, mm_rf 19 sp rr w nw)) 2 rfl ?_
        refine mm_T.mask [true, true, false, true, true, true] ?_
        obtain ⟨o1982, eo1982, e⟩ := mm_bind e
        refine tlX6_findStraightest_L78 d _ n y1 y4 0 I J 19 sp rr w nw (Or.inr rfl) o1982 eo1982 ?_
        refine mm_T.seg (f' := (62, [some (.ref 37), some (.int y1), none, some (.ref 19), some (.int (y4 + (-1))), none], [])) (h' := (107, o1982, J, mm_rf 19 sp rr w nw)) 2 rfl ?_
        refine mm_T.mask [true, true, false, true, true, false] ?_
        exact ih y1 (y4 + (-1)) o1982 J 19 sp rr w nw (Or.inr rfl) out e k
set_option maxRecDepth 100000 in
set_option maxHeartbeats 4000000 in
theorem tX6_findStraightest (d n : Nat) (x1 : Int32) (x2 : Int32) (I : Nat → Nat → Int32) (J : Nat → Nat → Int64) (rv sp rr w nw : Nat) (hrv : rv = 3 ∨ rv = 19) (out : Int32 × (Nat → Nat → Int32)) (e : fX6_findStraightest n x1 x2 I rv = some out) : mm_T none (d + 4) 90 (mm_ent 90 [(.ref 37), (.int x1), (.int x2)]) (107, I, J, mm_rf rv sp rr w nw) (fun v h => v = some (.int out.1) ∧ h = (107, out.2, J, mm_rf rv sp rr w nw)) := by
  rcases hrv with rfl | rfl
  · unfold fX6_findStraightest at e
    refine mm_T.seg (f' := (4, [some (.ref 37), some (.int x1), some (.int x2), none, none, none], [(.ref 18)])) (h' := (107, I, J, mm_rf 3 sp rr w nw)) 2 rfl ?_
    refine mm_T.seg (f' := (11, [some (.ref 37), some (.int x1), some (.int x2), some (.ref 3), some (.int 0), none], [])) (h' := (107, I, J, mm_rf 3 sp rr w nw)) 4 rfl ?_
    refine mm_T.mask [true, true, true, true, true, false] ?_
    obtain ⟨o1974, eo1974, e⟩ := mm_bind e
    refine tlX6_findStraightest_L11 d _ n x1 x2 0 I J 3 sp rr w nw (Or.inl rfl) o1974 eo1974 ?_
    refine mm_T.seg (f' := (62, [some (.ref 37), some (.int x1), none, some (.ref 3), some (.int ((o1974 3 1) - 1)), none], [])) (h' := (107, o1974, J, mm_rf 3 sp rr w nw)) 5 rfl ?_
    refine mm_T.mask [true, true, false, true, true, false] ?_
    obtain ⟨o1983, eo1983, e⟩ := mm_bind e
    refine tlX6_findStraightest_L62 d _ n x1 ((o1974 3 1) - 1) o1974 J 3 sp rr w nw (Or.inl rfl) o1983 eo1983 ?_
    refine mm_T.seg (f' := (125, [some (.ref 37), some (.int x1), none, none, none, none], [(.ref 38)])) (h' := (107, o1983, J, mm_rf 3 sp rr w nw)) 2 rfl ?_
    refine mm_T.seg (f' := (129, [some (.ref 37), some (.int x1), none, none, none, none], [(.ref 18), (.ref 38)])) (h' := (107, o1983, J, mm_rf 3 sp rr w nw)) 2 rfl ?_
    refine mm_T.seg (f' := (130, [some (.ref 37), some (.int x1), none, none, none, none], [(.int x1), (.ref 18), (.ref 38)])) (h' := (107, o1983, J, mm_rf 3 sp rr w nw)) 1 rfl ?_
    refine mm_T.call (t := 105) (as := [(.ref 18), (.int x1)]) (f' := (133, [some (.ref 37), some (.int x1), none, none, none, none], [(.ref 38)])) rfl (tX7_columnOf (d + 1) x1 o1983 J 3 sp rr w nw _ rfl) (fun v h hq => ?_)
    obtain ⟨rfl, rfl⟩ := hq
    refine mm_T.seg (f' := (137, [some (.ref 37), some (.int x1), none, none, none, none], [(.ref 18), (.int (fX7_columnOf x1 o1983)), (.ref 38)])) (h' := (107, o1983, J, mm_rf 3 sp rr w nw)) 2 rfl ?_
    refine mm_T.seg (f' := (138, [some (.ref 37), some (.int x1), none, none, none, none], [(.int x1), (.ref 18), (.int (fX7_columnOf x1 o1983)), (.ref 38)])) (h' := (107, o1983, J, mm_rf 3 sp rr w nw)) 1 rfl ?_
    refine mm_T.call (t := 106) (as := [(.ref 18), (.int x1)]) (f' := (141, [some (.ref 37), some (.int x1), none, none, none, none], [(.int (fX7_columnOf x1 o1983)), (.ref 38)])) rfl (tX7_rowOf (d + 1) x1 o1983 J 3 sp rr w nw _ rfl) (fun v h hq => ?_)
    obtain ⟨rfl, rfl⟩ := hq
    refine mm_T.call (t := 87) (as := [(.int (fX7_columnOf x1 o1983)), (.int (fX7_rowOf x1 o1983))]) (f' := (144, [some (.ref 37), some (.int x1), none, none, none, none], [(.ref 38)])) rfl (tX6_cell (d + 3) (fX7_columnOf x1 o1983) (fX7_rowOf x1 o1983) o1983 J 3 sp rr w nw _ rfl) (fun v h hq => ?_)
    obtain ⟨rfl, rfl⟩ := hq
    refine mm_T.call (t := 204) (as := [(.ref 38), (.int (fX6_cell (fX7_columnOf x1 o1983) (fX7_rowOf x1 o1983)))]) (f' := (147, [some (.ref 37), some (.int x1), none, none, none, none], [])) rfl (t_pick _ 38 56 (fX6_cell (fX7_columnOf x1 o1983) (fX7_rowOf x1 o1983)) o1983 J (mm_rf 3 sp rr w nw) rfl rfl) (fun v h hq => ?_)
    obtain ⟨rfl, rfl⟩ := hq
    refine mm_T.seg (f' := (153, [some (.ref 37), some (.int x1), none, none, some (.int (mf_pick o1983 38 56 (fX6_cell (fX7_columnOf x1 o1983) (fX7_rowOf x1 o1983)))), none], [(.int 99), (.int (mf_pick o1983 38 56 (fX6_cell (fX7_columnOf x1 o1983) (fX7_rowOf x1 o1983))))])) (h' := (107, o1983, J, mm_rf 3 sp rr w nw)) 3 rfl ?_
    refine mm_T.br (c := (mf_pick o1983 38 56 (fX6_cell (fX7_columnOf x1 o1983) (fX7_rowOf x1 o1983))) < 99) (a := ((158, [some (.ref 37), some (.int x1), none, none, some (.int (mf_pick o1983 38 56 (fX6_cell (fX7_columnOf x1 o1983) (fX7_rowOf x1 o1983)))), none], []), (107, o1983, J, mm_rf 3 sp rr w nw))) (b := ((156, [some (.ref 37), some (.int x1), none, none, some (.int (mf_pick o1983 38 56 (fX6_cell (fX7_columnOf x1 o1983) (fX7_rowOf x1 o1983)))), none], []), (107, o1983, J, mm_rf 3 sp rr w nw))) rfl (fun h1984 => ?_) (fun h1984 => ?_)
    · rw [if_pos h1984] at e
      refine mm_T.seg (f' := (163, [some (.ref 37), some (.int x1), none, none, some (.int (mf_pick o1983 38 56 (fX6_cell (fX7_columnOf x1 o1983) (fX7_rowOf x1 o1983)))), none], [(.ref 18), (.ref 37)])) (h' := (107, o1983, J, mm_rf 3 sp rr w nw)) 3 rfl ?_
      refine mm_T.seg (f' := (164, [some (.ref 37), some (.int x1), none, none, some (.int (mf_pick o1983 38 56 (fX6_cell (fX7_columnOf x1 o1983) (fX7_rowOf x1 o1983)))), none], [(.int x1), (.ref 18), (.ref 37)])) (h' := (107, o1983, J, mm_rf 3 sp rr w nw)) 1 rfl ?_
      refine mm_T.call (t := 105) (as := [(.ref 18), (.int x1)]) (f' := (167, [some (.ref 37), some (.int x1), none, none, some (.int (mf_pick o1983 38 56 (fX6_cell (fX7_columnOf x1 o1983) (fX7_rowOf x1 o1983)))), none], [(.ref 37)])) rfl (tX7_columnOf (d + 1) x1 o1983 J 3 sp rr w nw _ rfl) (fun v h hq => ?_)
      obtain ⟨rfl, rfl⟩ := hq
      refine mm_T.seg (f' := (171, [some (.ref 37), some (.int x1), none, none, some (.int (mf_pick o1983 38 56 (fX6_cell (fX7_columnOf x1 o1983) (fX7_rowOf x1 o1983)))), none], [(.ref 18), (.int (fX7_columnOf x1 o1983)), (.ref 37)])) (h' := (107, o1983, J, mm_rf 3 sp rr w nw)) 2 rfl ?_
      refine mm_T.seg (f' := (172, [some (.ref 37), some (.int x1), none, none, some (.int (mf_pick o1983 38 56 (fX6_cell (fX7_columnOf x1 o1983) (fX7_rowOf x1 o1983)))), none], [(.int x1), (.ref 18), (.int (fX7_columnOf x1 o1983)), (.ref 37)])) (h' := (107, o1983, J, mm_rf 3 sp rr w nw)) 1 rfl ?_
      refine mm_T.call (t := 106) (as := [(.ref 18), (.int x1)]) (f' := (175, [some (.ref 37), some (.int x1), none, none, some (.int (mf_pick o1983 38 56 (fX6_cell (fX7_columnOf x1 o1983) (fX7_rowOf x1 o1983)))), none], [(.int (fX7_columnOf x1 o1983)), (.ref 37)])) rfl (tX7_rowOf (d + 1) x1 o1983 J 3 sp rr w nw _ rfl) (fun v h hq => ?_)
      obtain ⟨rfl, rfl⟩ := hq
      obtain ⟨o1994, eo1994, e⟩ := mm_bind e
      refine mm_T.call (t := 93) (as := [(.ref 37), (.int (fX7_columnOf x1 o1983)), (.int (fX7_rowOf x1 o1983))]) (f' := (178, [some (.ref 37), some (.int x1), none, none, some (.int (mf_pick o1983 38 56 (fX6_cell (fX7_columnOf x1 o1983) (fX7_rowOf x1 o1983)))), none], [])) rfl (tX6_followTable (d + 0) n (fX7_columnOf x1 o1983) (fX7_rowOf x1 o1983) o1983 J 3 sp rr w nw (Or.inl rfl) o1994 eo1994) (fun v h hq => ?_)
      obtain ⟨rfl, rfl⟩ := hq
      refine mm_T.seg (f' := (180, [some (.ref 37), some (.int x1), none, none, some (.int (mf_pick o1983 38 56 (fX6_cell (fX7_columnOf x1 o1983) (fX7_rowOf x1 o1983)))), none], [(.int (mf_pick o1983 38 56 (fX6_cell (fX7_columnOf x1 o1983) (fX7_rowOf x1 o1983))))])) (h' := (107, o1994, J, mm_rf 3 sp rr w nw)) 1 rfl ?_
      cases e
      exact mm_T.ret rfl ⟨rfl, rfl⟩
    · rw [if_neg h1984] at e
      refine mm_T.seg (f' := (157, [some (.ref 37), some (.int x1), none, none, some (.int (mf_pick o1983 38 56 (fX6_cell (fX7_columnOf x1 o1983) (fX7_rowOf x1 o1983)))), none], [(.int (-1))])) (h' := (107, o1983, J, mm_rf 3 sp rr w nw)) 1 rfl ?_
      cases e
      exact mm_T.ret rfl ⟨rfl, rfl⟩
  · unfold fX6_findStraightest at e
    refine mm_T.seg (f' := (4, [some (.ref 37), some (.int x1), some (.int x2), none, none, none], [(.ref 18)])) (h' := (107, I, J, mm_rf 19 sp rr w nw)) 2 rfl ?_
    refine mm_T.seg (f' := (11, [some (.ref 37), some (.int x1), some (.int x2), some (.ref 19), some (.int 0), none], [])) (h' := (107, I, J, mm_rf 19 sp rr w nw)) 4 rfl ?_
    refine mm_T.mask [true, true, true, true, true, false] ?_
    obtain ⟨o1974, eo1974, e⟩ := mm_bind e
    refine tlX6_findStraightest_L11 d _ n x1 x2 0 I J 19 sp rr w nw (Or.inr rfl) o1974 eo1974 ?_
    refine mm_T.seg (f' := (62, [some (.ref 37), some (.int x1), none, some (.ref 19), some (.int ((o1974 19 1) - 1)), none], [])) (h' := (107, o1974, J, mm_rf 19 sp rr w nw)) 5 rfl ?_
    refine mm_T.mask [true, true, false, true, true, false] ?_
    obtain ⟨o1983, eo1983, e⟩ := mm_bind e
    refine tlX6_findStraightest_L62 d _ n x1 ((o1974 19 1) - 1) o1974 J 19 sp rr w nw (Or.inr rfl) o1983 eo1983 ?_
    refine mm_T.seg (f' := (125, [some (.ref 37), some (.int x1), none, none, none, none], [(.ref 38)])) (h' := (107, o1983, J, mm_rf 19 sp rr w nw)) 2 rfl ?_
    refine mm_T.seg (f' := (129, [some (.ref 37), some (.int x1), none, none, none, none], [(.ref 18), (.ref 38)])) (h' := (107, o1983, J, mm_rf 19 sp rr w nw)) 2 rfl ?_
    refine mm_T.seg (f' := (130, [some (.ref 37), some (.int x1), none, none, none, none], [(.int x1), (.ref 18), (.ref 38)])) (h' := (107, o1983, J, mm_rf 19 sp rr w nw)) 1 rfl ?_
    refine mm_T.call (t := 105) (as := [(.ref 18), (.int x1)]) (f' := (133, [some (.ref 37), some (.int x1), none, none, none, none], [(.ref 38)])) rfl (tX7_columnOf (d + 1) x1 o1983 J 19 sp rr w nw _ rfl) (fun v h hq => ?_)
    obtain ⟨rfl, rfl⟩ := hq
    refine mm_T.seg (f' := (137, [some (.ref 37), some (.int x1), none, none, none, none], [(.ref 18), (.int (fX7_columnOf x1 o1983)), (.ref 38)])) (h' := (107, o1983, J, mm_rf 19 sp rr w nw)) 2 rfl ?_
    refine mm_T.seg (f' := (138, [some (.ref 37), some (.int x1), none, none, none, none], [(.int x1), (.ref 18), (.int (fX7_columnOf x1 o1983)), (.ref 38)])) (h' := (107, o1983, J, mm_rf 19 sp rr w nw)) 1 rfl ?_
    refine mm_T.call (t := 106) (as := [(.ref 18), (.int x1)]) (f' := (141, [some (.ref 37), some (.int x1), none, none, none, none], [(.int (fX7_columnOf x1 o1983)), (.ref 38)])) rfl (tX7_rowOf (d + 1) x1 o1983 J 19 sp rr w nw _ rfl) (fun v h hq => ?_)
    obtain ⟨rfl, rfl⟩ := hq
    refine mm_T.call (t := 87) (as := [(.int (fX7_columnOf x1 o1983)), (.int (fX7_rowOf x1 o1983))]) (f' := (144, [some (.ref 37), some (.int x1), none, none, none, none], [(.ref 38)])) rfl (tX6_cell (d + 3) (fX7_columnOf x1 o1983) (fX7_rowOf x1 o1983) o1983 J 19 sp rr w nw _ rfl) (fun v h hq => ?_)
    obtain ⟨rfl, rfl⟩ := hq
    refine mm_T.call (t := 204) (as := [(.ref 38), (.int (fX6_cell (fX7_columnOf x1 o1983) (fX7_rowOf x1 o1983)))]) (f' := (147, [some (.ref 37), some (.int x1), none, none, none, none], [])) rfl (t_pick _ 38 56 (fX6_cell (fX7_columnOf x1 o1983) (fX7_rowOf x1 o1983)) o1983 J (mm_rf 19 sp rr w nw) rfl rfl) (fun v h hq => ?_)
    obtain ⟨rfl, rfl⟩ := hq
    refine mm_T.seg (f' := (153, [some (.ref 37), some (.int x1), none, none, some (.int (mf_pick o1983 38 56 (fX6_cell (fX7_columnOf x1 o1983) (fX7_rowOf x1 o1983)))), none], [(.int 99), (.int (mf_pick o1983 38 56 (fX6_cell (fX7_columnOf x1 o1983) (fX7_rowOf x1 o1983))))])) (h' := (107, o1983, J, mm_rf 19 sp rr w nw)) 3 rfl ?_
    refine mm_T.br (c := (mf_pick o1983 38 56 (fX6_cell (fX7_columnOf x1 o1983) (fX7_rowOf x1 o1983))) < 99) (a := ((158, [some (.ref 37), some (.int x1), none, none, some (.int (mf_pick o1983 38 56 (fX6_cell (fX7_columnOf x1 o1983) (fX7_rowOf x1 o1983)))), none], []), (107, o1983, J, mm_rf 19 sp rr w nw))) (b := ((156, [some (.ref 37), some (.int x1), none, none, some (.int (mf_pick o1983 38 56 (fX6_cell (fX7_columnOf x1 o1983) (fX7_rowOf x1 o1983)))), none], []), (107, o1983, J, mm_rf 19 sp rr w nw))) rfl (fun h1984 => ?_) (fun h1984 => ?_)
    · rw [if_pos h1984] at e
      refine mm_T.seg (f' := (163, [some (.ref 37), some (.int x1), none, none, some (.int (mf_pick o1983 38 56 (fX6_cell (fX7_columnOf x1 o1983) (fX7_rowOf x1 o1983)))), none], [(.ref 18), (.ref 37)])) (h' := (107, o1983, J, mm_rf 19 sp rr w nw)) 3 rfl ?_
      refine mm_T.seg (f' := (164, [some (.ref 37), some (.int x1), none, none, some (.int (mf_pick o1983 38 56 (fX6_cell (fX7_columnOf x1 o1983) (fX7_rowOf x1 o1983)))), none], [(.int x1), (.ref 18), (.ref 37)])) (h' := (107, o1983, J, mm_rf 19 sp rr w nw)) 1 rfl ?_
      refine mm_T.call (t := 105) (as := [(.ref 18), (.int x1)]) (f' := (167, [some (.ref 37), some (.int x1), none, none, some (.int (mf_pick o1983 38 56 (fX6_cell (fX7_columnOf x1 o1983) (fX7_rowOf x1 o1983)))), none], [(.ref 37)])) rfl (tX7_columnOf (d + 1) x1 o1983 J 19 sp rr w nw _ rfl) (fun v h hq => ?_)
      obtain ⟨rfl, rfl⟩ := hq
      refine mm_T.seg (f' := (171, [some (.ref 37), some (.int x1), none, none, some (.int (mf_pick o1983 38 56 (fX6_cell (fX7_columnOf x1 o1983) (fX7_rowOf x1 o1983)))), none], [(.ref 18), (.int (fX7_columnOf x1 o1983)), (.ref 37)])) (h' := (107, o1983, J, mm_rf 19 sp rr w nw)) 2 rfl ?_
      refine mm_T.seg (f' := (172, [some (.ref 37), some (.int x1), none, none, some (.int (mf_pick o1983 38 56 (fX6_cell (fX7_columnOf x1 o1983) (fX7_rowOf x1 o1983)))), none], [(.int x1), (.ref 18), (.int (fX7_columnOf x1 o1983)), (.ref 37)])) (h' := (107, o1983, J, mm_rf 19 sp rr w nw)) 1 rfl ?_
      refine mm_T.call (t := 106) (as := [(.ref 18), (.int x1)]) (f' := (175, [some (.ref 37), some (.int x1), none, none, some (.int (mf_pick o1983 38 56 (fX6_cell (fX7_columnOf x1 o1983) (fX7_rowOf x1 o1983)))), none], [(.int (fX7_columnOf x1 o1983)), (.ref 37)])) rfl (tX7_rowOf (d + 1) x1 o1983 J 19 sp rr w nw _ rfl) (fun v h hq => ?_)
      obtain ⟨rfl, rfl⟩ := hq
      obtain ⟨o1994, eo1994, e⟩ := mm_bind e
      refine mm_T.call (t := 93) (as := [(.ref 37), (.int (fX7_columnOf x1 o1983)), (.int (fX7_rowOf x1 o1983))]) (f' := (178, [some (.ref 37), some (.int x1), none, none, some (.int (mf_pick o1983 38 56 (fX6_cell (fX7_columnOf x1 o1983) (fX7_rowOf x1 o1983)))), none], [])) rfl (tX6_followTable (d + 0) n (fX7_columnOf x1 o1983) (fX7_rowOf x1 o1983) o1983 J 19 sp rr w nw (Or.inr rfl) o1994 eo1994) (fun v h hq => ?_)
      obtain ⟨rfl, rfl⟩ := hq
      refine mm_T.seg (f' := (180, [some (.ref 37), some (.int x1), none, none, some (.int (mf_pick o1983 38 56 (fX6_cell (fX7_columnOf x1 o1983) (fX7_rowOf x1 o1983)))), none], [(.int (mf_pick o1983 38 56 (fX6_cell (fX7_columnOf x1 o1983) (fX7_rowOf x1 o1983))))])) (h' := (107, o1994, J, mm_rf 19 sp rr w nw)) 1 rfl ?_
      cases e
      exact mm_T.ret rfl ⟨rfl, rfl⟩
    · rw [if_neg h1984] at e
      refine mm_T.seg (f' := (157, [some (.ref 37), some (.int x1), none, none, some (.int (mf_pick o1983 38 56 (fX6_cell (fX7_columnOf x1 o1983) (fX7_rowOf x1 o1983)))), none], [(.int (-1))])) (h' := (107, o1983, J, mm_rf 19 sp rr w nw)) 1 rfl ?_
      cases e
      exact mm_T.ret rfl ⟨rfl, rfl⟩
