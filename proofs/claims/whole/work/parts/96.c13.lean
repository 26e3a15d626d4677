set_option maxRecDepth 100000 in
set_option maxHeartbeats 4000000 in
theorem tX11_hotter (d n : Nat) (x1 : Int32) (I : Nat → Nat → Int32) (J : Nat → Nat → Int64) (rv sp rr w nw : Nat) (hrv : rv = 3 ∨ rv = 19) (out : Int32 × (Nat → Nat → Int32)) (e : fX11_hotter n x1 I rv = some out) : mm_T none (d + 4) 167 (mm_ent 167 [(.ref 1), (.int x1)]) (107, I, J, mm_rf rv sp rr w nw) (fun v h => v = some (.int out.1) ∧ h = (107, out.2, J, mm_rf rv sp rr w nw)) := by
  rcases hrv with rfl | rfl
  · unfold fX11_hotter at e
    refine mm_T.seg (f' := (4, [some (.ref 1), some (.int x1)], [(.ref 18)])) (h' := (107, I, J, mm_rf 3 sp rr w nw)) 2 rfl ?_
    refine mm_T.seg (f' := (5, [some (.ref 1), some (.int x1)], [(.int x1), (.ref 18)])) (h' := (107, I, J, mm_rf 3 sp rr w nw)) 1 rfl ?_
    obtain ⟨g433, hg433⟩ : ∃ z, fX7_isBoard x1 I 3 = z := ⟨_, rfl⟩
    try rw [hg433] at e
    refine mm_T.call (t := 101) (as := [(.ref 18), (.int x1)]) (f' := (8, [some (.ref 1), some (.int x1)], [])) rfl (tX7_isBoard (d + 3) x1 I J 3 sp rr w nw (Or.inl rfl) g433 hg433) (fun v h hq => ?_)
    obtain ⟨rfl, rfl⟩ := hq
    refine mm_T.br (c := g433 = 0) (a := ((22, [some (.ref 1), some (.int x1)], []), (107, I, J, mm_rf 3 sp rr w nw))) (b := ((11, [some (.ref 1), some (.int x1)], []), (107, I, J, mm_rf 3 sp rr w nw))) rfl (fun h2302 => ?_) (fun h2302 => ?_)
    · rw [if_pos h2302] at e
      refine mm_T.seg (f' := (23, [some (.ref 1), some (.int x1)], [(.int (-1))])) (h' := (107, I, J, mm_rf 3 sp rr w nw)) 1 rfl ?_
      cases e
      exact mm_T.ret rfl ⟨rfl, rfl⟩
    · rw [if_neg h2302] at e
      refine mm_T.seg (f' := (15, [some (.ref 1), some (.int x1)], [(.ref 18)])) (h' := (107, I, J, mm_rf 3 sp rr w nw)) 2 rfl ?_
      refine mm_T.seg (f' := (16, [some (.ref 1), some (.int x1)], [(.int x1), (.ref 18)])) (h' := (107, I, J, mm_rf 3 sp rr w nw)) 1 rfl ?_
      obtain ⟨o2303, eo2303, e⟩ := mm_bind e
      refine mm_T.call (t := 123) (as := [(.ref 18), (.int x1)]) (f' := (19, [some (.ref 1), some (.int x1)], [])) rfl (tX7_nextWarmth (d + 0) n x1 I J 3 sp rr w nw (Or.inl rfl) o2303 eo2303) (fun v h hq => ?_)
      obtain ⟨rfl, rfl⟩ := hq
      refine mm_T.seg (f' := (23, [some (.ref 1), some (.int x1)], [(.int o2303.1)])) (h' := (107, o2303.2, J, mm_rf 3 sp rr w nw)) 1 rfl ?_
      cases e
      exact mm_T.ret rfl ⟨rfl, rfl⟩
  · unfold fX11_hotter at e
    refine mm_T.seg (f' := (4, [some (.ref 1), some (.int x1)], [(.ref 18)])) (h' := (107, I, J, mm_rf 19 sp rr w nw)) 2 rfl ?_
    refine mm_T.seg (f' := (5, [some (.ref 1), some (.int x1)], [(.int x1), (.ref 18)])) (h' := (107, I, J, mm_rf 19 sp rr w nw)) 1 rfl ?_
    obtain ⟨g433, hg433⟩ : ∃ z, fX7_isBoard x1 I 19 = z := ⟨_, rfl⟩
    try rw [hg433] at e
    refine mm_T.call (t := 101) (as := [(.ref 18), (.int x1)]) (f' := (8, [some (.ref 1), some (.int x1)], [])) rfl (tX7_isBoard (d + 3) x1 I J 19 sp rr w nw (Or.inr rfl) g433 hg433) (fun v h hq => ?_)
    obtain ⟨rfl, rfl⟩ := hq
    refine mm_T.br (c := g433 = 0) (a := ((22, [some (.ref 1), some (.int x1)], []), (107, I, J, mm_rf 19 sp rr w nw))) (b := ((11, [some (.ref 1), some (.int x1)], []), (107, I, J, mm_rf 19 sp rr w nw))) rfl (fun h2302 => ?_) (fun h2302 => ?_)
    · rw [if_pos h2302] at e
      refine mm_T.seg (f' := (23, [some (.ref 1), some (.int x1)], [(.int (-1))])) (h' := (107, I, J, mm_rf 19 sp rr w nw)) 1 rfl ?_
      cases e
      exact mm_T.ret rfl ⟨rfl, rfl⟩
    · rw [if_neg h2302] at e
      refine mm_T.seg (f' := (15, [some (.ref 1), some (.int x1)], [(.ref 18)])) (h' := (107, I, J, mm_rf 19 sp rr w nw)) 2 rfl ?_
      refine mm_T.seg (f' := (16, [some (.ref 1), some (.int x1)], [(.int x1), (.ref 18)])) (h' := (107, I, J, mm_rf 19 sp rr w nw)) 1 rfl ?_
      obtain ⟨o2303, eo2303, e⟩ := mm_bind e
      refine mm_T.call (t := 123) (as := [(.ref 18), (.int x1)]) (f' := (19, [some (.ref 1), some (.int x1)], [])) rfl (tX7_nextWarmth (d + 0) n x1 I J 19 sp rr w nw (Or.inr rfl) o2303 eo2303) (fun v h hq => ?_)
      obtain ⟨rfl, rfl⟩ := hq
      refine mm_T.seg (f' := (23, [some (.ref 1), some (.int x1)], [(.int o2303.1)])) (h' := (107, o2303.2, J, mm_rf 19 sp rr w nw)) 1 rfl ?_
      cases e
      exact mm_T.ret rfl ⟨rfl, rfl⟩
set_option maxRecDepth 100000 in
set_option maxHeartbeats 4000000 in
theorem tX11_isSteer (d : Nat) (x0 : Int32) (I : Nat → Nat → Int32) (J : Nat → Nat → Int64) (rv sp rr w nw : Nat) (out : Int32) (e : fX11_isSteer x0 = out) : mm_T none (d + 0) 169 (mm_ent 169 [(.int x0)]) (107, I, J, mm_rf rv sp rr w nw) (fun v h => v = some (.int out) ∧ h = (107, I, J, mm_rf rv sp rr w nw)) := by
  unfold fX11_isSteer at e
  refine mm_T.seg (f' := (2, [some (.int x0)], [(.int (-1)), (.int x0)])) (h' := (107, I, J, mm_rf rv sp rr w nw)) 2 rfl ?_
  refine mm_T.br (c := x0 < (-1)) (a := ((14, [some (.int x0)], []), (107, I, J, mm_rf rv sp rr w nw))) (b := ((5, [some (.int x0)], []), (107, I, J, mm_rf rv sp rr w nw))) rfl (fun h2305 => ?_) (fun h2305 => ?_)
  · rw [if_pos h2305] at e
    refine mm_T.seg (f' := (15, [some (.int x0)], [(.int 0)])) (h' := (107, I, J, mm_rf rv sp rr w nw)) 1 rfl ?_
    cases e
    exact mm_T.ret rfl ⟨rfl, rfl⟩
  · rw [if_neg h2305] at e
    refine mm_T.seg (f' := (7, [some (.int x0)], [(.int 1), (.int x0)])) (h' := (107, I, J, mm_rf rv sp rr w nw)) 2 rfl ?_
    refine mm_T.br (c := 1 < x0) (a := ((14, [some (.int x0)], []), (107, I, J, mm_rf rv sp rr w nw))) (b := ((10, [some (.int x0)], []), (107, I, J, mm_rf rv sp rr w nw))) rfl (fun h2306 => ?_) (fun h2306 => ?_)
    · rw [if_pos h2306] at e
      refine mm_T.seg (f' := (15, [some (.int x0)], [(.int 0)])) (h' := (107, I, J, mm_rf rv sp rr w nw)) 1 rfl ?_
      cases e
      exact mm_T.ret rfl ⟨rfl, rfl⟩
    · rw [if_neg h2306] at e
      refine mm_T.seg (f' := (15, [some (.int x0)], [(.int 1)])) (h' := (107, I, J, mm_rf rv sp rr w nw)) 2 rfl ?_
      cases e
      exact mm_T.ret rfl ⟨rfl, rfl⟩
set_option maxRecDepth 100000 in
set_option maxHeartbeats 4000000 in
theorem tX11_stroke (d n : Nat) (x1 : Int32) (x2 : Int32) (x3 : Int32) (I : Nat → Nat → Int32) (J : Nat → Nat → Int64) (rv sp rr w nw : Nat) (hrv : rv = 3 ∨ rv = 19) (out : Int32 × (Nat → Nat → Int32)) (e : fX11_stroke n x1 x2 x3 I rv = some out) : mm_T none (d + 5) 168 (mm_ent 168 [(.ref 1), (.int x1), (.int x2), (.int x3)]) (107, I, J, mm_rf rv sp rr w nw) (fun v h => v = some (.int out.1) ∧ h = (107, out.2, J, mm_rf rv sp rr w nw)) := by
  rcases hrv with rfl | rfl
  · unfold fX11_stroke at e
    refine mm_T.seg (f' := (4, [some (.ref 1), some (.int x1), some (.int x2), some (.int x3)], [(.ref 18)])) (h' := (107, I, J, mm_rf 3 sp rr w nw)) 2 rfl ?_
    refine mm_T.seg (f' := (5, [some (.ref 1), some (.int x1), some (.int x2), some (.int x3)], [(.int x1), (.ref 18)])) (h' := (107, I, J, mm_rf 3 sp rr w nw)) 1 rfl ?_
    obtain ⟨g434, hg434⟩ : ∃ z, fX7_isBoard x1 I 3 = z := ⟨_, rfl⟩
    try rw [hg434] at e
    refine mm_T.call (t := 101) (as := [(.ref 18), (.int x1)]) (f' := (8, [some (.ref 1), some (.int x1), some (.int x2), some (.int x3)], [])) rfl (tX7_isBoard (d + 4) x1 I J 3 sp rr w nw (Or.inl rfl) g434 hg434) (fun v h hq => ?_)
    obtain ⟨rfl, rfl⟩ := hq
    refine mm_T.br (c := g434 = 0) (a := ((30, [some (.ref 1), some (.int x1), some (.int x2), some (.int x3)], []), (107, I, J, mm_rf 3 sp rr w nw))) (b := ((11, [some (.ref 1), some (.int x1), some (.int x2), some (.int x3)], []), (107, I, J, mm_rf 3 sp rr w nw))) rfl (fun h2304 => ?_) (fun h2304 => ?_)
    · rw [if_pos h2304] at e
      refine mm_T.seg (f' := (31, [some (.ref 1), some (.int x1), some (.int x2), some (.int x3)], [(.int (-1))])) (h' := (107, I, J, mm_rf 3 sp rr w nw)) 1 rfl ?_
      cases e
      exact mm_T.ret rfl ⟨rfl, rfl⟩
    · rw [if_neg h2304] at e
      refine mm_T.seg (f' := (12, [some (.ref 1), some (.int x1), some (.int x2), some (.int x3)], [(.int x2)])) (h' := (107, I, J, mm_rf 3 sp rr w nw)) 1 rfl ?_
      obtain ⟨g435, hg435⟩ : ∃ z, fX11_isSteer x2 = z := ⟨_, rfl⟩
      try rw [hg435] at e
      refine mm_T.call (t := 169) (as := [(.int x2)]) (f' := (15, [some (.ref 1), some (.int x1), some (.int x2), some (.int x3)], [])) rfl (tX11_isSteer (d + 4) x2 I J 3 sp rr w nw g435 hg435) (fun v h hq => ?_)
      obtain ⟨rfl, rfl⟩ := hq
      refine mm_T.br (c := g435 = 0) (a := ((30, [some (.ref 1), some (.int x1), some (.int x2), some (.int x3)], []), (107, I, J, mm_rf 3 sp rr w nw))) (b := ((18, [some (.ref 1), some (.int x1), some (.int x2), some (.int x3)], []), (107, I, J, mm_rf 3 sp rr w nw))) rfl (fun h2307 => ?_) (fun h2307 => ?_)
      · rw [if_pos h2307] at e
        refine mm_T.seg (f' := (31, [some (.ref 1), some (.int x1), some (.int x2), some (.int x3)], [(.int (-1))])) (h' := (107, I, J, mm_rf 3 sp rr w nw)) 1 rfl ?_
        cases e
        exact mm_T.ret rfl ⟨rfl, rfl⟩
      · rw [if_neg h2307] at e
        refine mm_T.seg (f' := (22, [some (.ref 1), some (.int x1), some (.int x2), some (.int x3)], [(.ref 18)])) (h' := (107, I, J, mm_rf 3 sp rr w nw)) 2 rfl ?_
        refine mm_T.seg (f' := (24, [some (.ref 1), some (.int x1), some (.int x2), some (.int x3)], [(.int x3), (.int x1), (.ref 18)])) (h' := (107, I, J, mm_rf 3 sp rr w nw)) 2 rfl ?_
        obtain ⟨g436, hg436⟩ : ∃ z, fX7_canStroke x1 x3 I 3 = z := ⟨_, rfl⟩
        try rw [hg436] at e
        refine mm_T.call (t := 122) (as := [(.ref 18), (.int x1), (.int x3)]) (f' := (27, [some (.ref 1), some (.int x1), some (.int x2), some (.int x3)], [])) rfl (tX7_canStroke (d + 1) x1 x3 I J 3 sp rr w nw (Or.inl rfl) g436 hg436) (fun v h hq => ?_)
        obtain ⟨rfl, rfl⟩ := hq
        refine mm_T.br (c := g436 = 0) (a := ((30, [some (.ref 1), some (.int x1), some (.int x2), some (.int x3)], []), (107, I, J, mm_rf 3 sp rr w nw))) (b := ((32, [some (.ref 1), some (.int x1), some (.int x2), some (.int x3)], []), (107, I, J, mm_rf 3 sp rr w nw))) rfl (fun h2308 => ?_) (fun h2308 => ?_)
        · rw [if_pos h2308] at e
          refine mm_T.seg (f' := (31, [some (.ref 1), some (.int x1), some (.int x2), some (.int x3)], [(.int (-1))])) (h' := (107, I, J, mm_rf 3 sp rr w nw)) 1 rfl ?_
          cases e
          exact mm_T.ret rfl ⟨rfl, rfl⟩
        · rw [if_neg h2308] at e
          refine mm_T.seg (f' := (36, [some (.ref 1), some (.int x1), some (.int x2), some (.int x3)], [(.ref 33)])) (h' := (107, I, J, mm_rf 3 sp rr w nw)) 2 rfl ?_
          obtain ⟨o2309, eo2309, e⟩ := mm_bind e
          refine mm_T.call (t := 16) (as := [(.ref 33)]) (f' := (39, [some (.ref 1), some (.int x1), some (.int x2), some (.int x3)], [])) rfl (tX2_beginAct (d + 2) n I J 3 sp rr w nw o2309 eo2309) (fun v h hq => ?_)
          obtain ⟨rfl, rfl⟩ := hq
          refine mm_T.seg (f' := (43, [some (.ref 1), some (.int x1), some (.int x2), some (.int x3)], [(.ref 18)])) (h' := (107, o2309, J, mm_rf 3 sp rr w nw)) 2 rfl ?_
          refine mm_T.seg (f' := (46, [some (.ref 1), some (.int x1), some (.int x2), some (.int x3)], [(.int x3), (.int x2), (.int x1), (.ref 18)])) (h' := (107, o2309, J, mm_rf 3 sp rr w nw)) 3 rfl ?_
          obtain ⟨o2310, eo2310, e⟩ := mm_bind e
          refine mm_T.call (t := 124) (as := [(.ref 18), (.int x1), (.int x2), (.int x3)]) (f' := (49, [some (.ref 1), some (.int x1), some (.int x2), some (.int x3)], [])) rfl (tX7_makeStroke (d + 0) n x1 x2 x3 o2309 J 3 sp rr w nw (Or.inl rfl) o2310 eo2310) (fun v h hq => ?_)
          obtain ⟨rfl, rfl⟩ := hq
          cases e
          exact mm_T.ret rfl ⟨rfl, rfl⟩
  · unfold fX11_stroke at e
    refine mm_T.seg (f' := (4, [some (.ref 1), some (.int x1), some (.int x2), some (.int x3)], [(.ref 18)])) (h' := (107, I, J, mm_rf 19 sp rr w nw)) 2 rfl ?_
    refine mm_T.seg (f' := (5, [some (.ref 1), some (.int x1), some (.int x2), some (.int x3)], [(.int x1), (.ref 18)])) (h' := (107, I, J, mm_rf 19 sp rr w nw)) 1 rfl ?_
    obtain ⟨g434, hg434⟩ : ∃ z, fX7_isBoard x1 I 19 = z := ⟨_, rfl⟩
    try rw [hg434] at e
    refine mm_T.call (t := 101) (as := [(.ref 18), (.int x1)]) (f' := (8, [some (.ref 1), some (.int x1), some (.int x2), some (.int x3)], [])) rfl (tX7_isBoard (d + 4) x1 I J 19 sp rr w nw (Or.inr rfl) g434 hg434) (fun v h hq => ?_)
    obtain ⟨rfl, rfl⟩ := hq
    refine mm_T.br (c := g434 = 0) (a := ((30, [some (.ref 1), some (.int x1), some (.int x2), some (.int x3)], []), (107, I, J, mm_rf 19 sp rr w nw))) (b := ((11, [some (.ref 1), some (.int x1), some (.int x2), some (.int x3)], []), (107, I, J, mm_rf 19 sp rr w nw))) rfl (fun h2304 => ?_) (fun h2304 => ?_)
    · rw [if_pos h2304] at e
      refine mm_T.seg (f' := (31, [some (.ref 1), some (.int x1), some (.int x2), some (.int x3)], [(.int (-1))])) (h' := (107, I, J, mm_rf 19 sp rr w nw)) 1 rfl ?_
      cases e
      exact mm_T.ret rfl ⟨rfl, rfl⟩
    · rw [if_neg h2304] at e
      refine mm_T.seg (f' := (12, [some (.ref 1), some (.int x1), some (.int x2), some (.int x3)], [(.int x2)])) (h' := (107, I, J, mm_rf 19 sp rr w nw)) 1 rfl ?_
      obtain ⟨g435, hg435⟩ : ∃ z, fX11_isSteer x2 = z := ⟨_, rfl⟩
      try rw [hg435] at e
      refine mm_T.call (t := 169) (as := [(.int x2)]) (f' := (15, [some (.ref 1), some (.int x1), some (.int x2), some (.int x3)], [])) rfl (tX11_isSteer (d + 4) x2 I J 19 sp rr w nw g435 hg435) (fun v h hq => ?_)
      obtain ⟨rfl, rfl⟩ := hq
      refine mm_T.br (c := g435 = 0) (a := ((30, [some (.ref 1), some (.int x1), some (.int x2), some (.int x3)], []), (107, I, J, mm_rf 19 sp rr w nw))) (b := ((18, [some (.ref 1), some (.int x1), some (.int x2), some (.int x3)], []), (107, I, J, mm_rf 19 sp rr w nw))) rfl (fun h2307 => ?_) (fun h2307 => ?_)
      · rw [if_pos h2307] at e
        refine mm_T.seg (f' := (31, [some (.ref 1), some (.int x1), some (.int x2), some (.int x3)], [(.int (-1))])) (h' := (107, I, J, mm_rf 19 sp rr w nw)) 1 rfl ?_
        cases e
        exact mm_T.ret rfl ⟨rfl, rfl⟩
      · rw [if_neg h2307] at e
        refine mm_T.seg (f' := (22, [some (.ref 1), some (.int x1), some (.int x2), some (.int x3)], [(.ref 18)])) (h' := (107, I, J, mm_rf 19 sp rr w nw)) 2 rfl ?_
        refine mm_T.seg (f' := (24, [some (.ref 1), some (.int x1), some (.int x2), some (.int x3)], [(.int x3), (.int x1), (.ref 18)])) (h' := (107, I, J, mm_rf 19 sp rr w nw)) 2 rfl ?_
        obtain ⟨g436, hg436⟩ : ∃ z, fX7_canStroke x1 x3 I 19 = z := ⟨_, rfl⟩
        try rw [hg436] at e
        refine mm_T.call (t := 122) (as := [(.ref 18), (.int x1), (.int x3)]) (f' := (27, [some (.ref 1), some (.int x1), some (.int x2), some (.int x3)], [])) rfl (tX7_canStroke (d + 1) x1 x3 I J 19 sp rr w nw (Or.inr rfl) g436 hg436) (fun v h hq => ?_)
        obtain ⟨rfl, rfl⟩ := hq
        refine mm_T.br (c := g436 = 0) (a := ((30, [some (.ref 1), some (.int x1), some (.int x2), some (.int x3)], []), (107, I, J, mm_rf 19 sp rr w nw))) (b := ((32, [some (.ref 1), some (.int x1), some (.int x2), some (.int x3)], []), (107, I, J, mm_rf 19 sp rr w nw))) rfl (fun h2308 => ?_) (fun h2308 => ?_)
        · rw [if_pos h2308] at e
          refine mm_T.seg (f' := (31, [some (.ref 1), some (.int x1), some (.int x2), some (.int x3)], [(.int (-1))])) (h' := (107, I, J, mm_rf 19 sp rr w nw)) 1 rfl ?_
          cases e
          exact mm_T.ret rfl ⟨rfl, rfl⟩
        · rw [if_neg h2308] at e
          refine mm_T.seg (f' := (36, [some (.ref 1), some (.int x1), some (.int x2), some (.int x3)], [(.ref 33)])) (h' := (107, I, J, mm_rf 19 sp rr w nw)) 2 rfl ?_
          obtain ⟨o2309, eo2309, e⟩ := mm_bind e
          refine mm_T.call (t := 16) (as := [(.ref 33)]) (f' := (39, [some (.ref 1), some (.int x1), some (.int x2), some (.int x3)], [])) rfl (tX2_beginAct (d + 2) n I J 19 sp rr w nw o2309 eo2309) (fun v h hq => ?_)
          obtain ⟨rfl, rfl⟩ := hq
          refine mm_T.seg (f' := (43, [some (.ref 1), some (.int x1), some (.int x2), some (.int x3)], [(.ref 18)])) (h' := (107, o2309, J, mm_rf 19 sp rr w nw)) 2 rfl ?_
          refine mm_T.seg (f' := (46, [some (.ref 1), some (.int x1), some (.int x2), some (.int x3)], [(.int x3), (.int x2), (.int x1), (.ref 18)])) (h' := (107, o2309, J, mm_rf 19 sp rr w nw)) 3 rfl ?_
          obtain ⟨o2310, eo2310, e⟩ := mm_bind e
          refine mm_T.call (t := 124) (as := [(.ref 18), (.int x1), (.int x2), (.int x3)]) (f' := (49, [some (.ref 1), some (.int x1), some (.int x2), some (.int x3)], [])) rfl (tX7_makeStroke (d + 0) n x1 x2 x3 o2309 J 19 sp rr w nw (Or.inr rfl) o2310 eo2310) (fun v h hq => ?_)
          obtain ⟨rfl, rfl⟩ := hq
          cases e
          exact mm_T.ret rfl ⟨rfl, rfl⟩
set_option maxRecDepth 100000 in
set_option maxHeartbeats 4000000 in
theorem tX11_stow (d n : Nat) (x1 : Int32) (x2 : Int32) (I : Nat → Nat → Int32) (J : Nat → Nat → Int64) (rv sp rr w nw : Nat) (hrv : rv = 3 ∨ rv = 19) (out : Int32 × (Nat → Nat → Int32)) (e : fX11_stow n x1 x2 I rv = some out) : mm_T none (d + 5) 170 (mm_ent 170 [(.ref 1), (.int x1), (.int x2)]) (107, I, J, mm_rf rv sp rr w nw) (fun v h => v = some (.int out.1) ∧ h = (107, out.2, J, mm_rf rv sp rr w nw)) := by
  rcases hrv with rfl | rfl
  · unfold fX11_stow at e
    refine mm_T.seg (f' := (4, [some (.ref 1), some (.int x1), some (.int x2)], [(.ref 18)])) (h' := (107, I, J, mm_rf 3 sp rr w nw)) 2 rfl ?_
    refine mm_T.seg (f' := (5, [some (.ref 1), some (.int x1), some (.int x2)], [(.int x1), (.ref 18)])) (h' := (107, I, J, mm_rf 3 sp rr w nw)) 1 rfl ?_
    obtain ⟨g437, hg437⟩ : ∃ z, fX7_isLoad x1 I 3 = z := ⟨_, rfl⟩
    try rw [hg437] at e
    refine mm_T.call (t := 102) (as := [(.ref 18), (.int x1)]) (f' := (8, [some (.ref 1), some (.int x1), some (.int x2)], [])) rfl (tX7_isLoad (d + 4) x1 I J 3 sp rr w nw (Or.inl rfl) g437 hg437) (fun v h hq => ?_)
    obtain ⟨rfl, rfl⟩ := hq
    refine mm_T.br (c := g437 = 0) (a := ((34, [some (.ref 1), some (.int x1), some (.int x2)], []), (107, I, J, mm_rf 3 sp rr w nw))) (b := ((11, [some (.ref 1), some (.int x1), some (.int x2)], []), (107, I, J, mm_rf 3 sp rr w nw))) rfl (fun h2311 => ?_) (fun h2311 => ?_)
    · rw [if_pos h2311] at e
      refine mm_T.seg (f' := (35, [some (.ref 1), some (.int x1), some (.int x2)], [(.int (-1))])) (h' := (107, I, J, mm_rf 3 sp rr w nw)) 1 rfl ?_
      cases e
      exact mm_T.ret rfl ⟨rfl, rfl⟩
    · rw [if_neg h2311] at e
      refine mm_T.seg (f' := (15, [some (.ref 1), some (.int x1), some (.int x2)], [(.ref 18)])) (h' := (107, I, J, mm_rf 3 sp rr w nw)) 2 rfl ?_
      refine mm_T.seg (f' := (16, [some (.ref 1), some (.int x1), some (.int x2)], [(.int x2), (.ref 18)])) (h' := (107, I, J, mm_rf 3 sp rr w nw)) 1 rfl ?_
      obtain ⟨g438, hg438⟩ : ∃ z, fX7_isBoard x2 I 3 = z := ⟨_, rfl⟩
      try rw [hg438] at e
      refine mm_T.call (t := 101) (as := [(.ref 18), (.int x2)]) (f' := (19, [some (.ref 1), some (.int x1), some (.int x2)], [])) rfl (tX7_isBoard (d + 4) x2 I J 3 sp rr w nw (Or.inl rfl) g438 hg438) (fun v h hq => ?_)
      obtain ⟨rfl, rfl⟩ := hq
      refine mm_T.br (c := g438 = 0) (a := ((34, [some (.ref 1), some (.int x1), some (.int x2)], []), (107, I, J, mm_rf 3 sp rr w nw))) (b := ((22, [some (.ref 1), some (.int x1), some (.int x2)], []), (107, I, J, mm_rf 3 sp rr w nw))) rfl (fun h2312 => ?_) (fun h2312 => ?_)
      · rw [if_pos h2312] at e
        refine mm_T.seg (f' := (35, [some (.ref 1), some (.int x1), some (.int x2)], [(.int (-1))])) (h' := (107, I, J, mm_rf 3 sp rr w nw)) 1 rfl ?_
        cases e
        exact mm_T.ret rfl ⟨rfl, rfl⟩
      · rw [if_neg h2312] at e
        refine mm_T.seg (f' := (26, [some (.ref 1), some (.int x1), some (.int x2)], [(.ref 18)])) (h' := (107, I, J, mm_rf 3 sp rr w nw)) 2 rfl ?_
        refine mm_T.seg (f' := (28, [some (.ref 1), some (.int x1), some (.int x2)], [(.int x2), (.int x1), (.ref 18)])) (h' := (107, I, J, mm_rf 3 sp rr w nw)) 2 rfl ?_
        obtain ⟨o2313, eo2313, e⟩ := mm_bind e
        refine mm_T.call (t := 121) (as := [(.ref 18), (.int x1), (.int x2)]) (f' := (31, [some (.ref 1), some (.int x1), some (.int x2)], [])) rfl (tX7_canPut (d + 0) n x1 x2 I J 3 sp rr w nw (Or.inl rfl) o2313 eo2313) (fun v h hq => ?_)
        obtain ⟨rfl, rfl⟩ := hq
        refine mm_T.br (c := o2313 = 0) (a := ((34, [some (.ref 1), some (.int x1), some (.int x2)], []), (107, I, J, mm_rf 3 sp rr w nw))) (b := ((36, [some (.ref 1), some (.int x1), some (.int x2)], []), (107, I, J, mm_rf 3 sp rr w nw))) rfl (fun h2314 => ?_) (fun h2314 => ?_)
        · rw [if_pos h2314] at e
          refine mm_T.seg (f' := (35, [some (.ref 1), some (.int x1), some (.int x2)], [(.int (-1))])) (h' := (107, I, J, mm_rf 3 sp rr w nw)) 1 rfl ?_
          cases e
          exact mm_T.ret rfl ⟨rfl, rfl⟩
        · rw [if_neg h2314] at e
          refine mm_T.seg (f' := (40, [some (.ref 1), some (.int x1), some (.int x2)], [(.ref 33)])) (h' := (107, I, J, mm_rf 3 sp rr w nw)) 2 rfl ?_
          obtain ⟨o2315, eo2315, e⟩ := mm_bind e
          refine mm_T.call (t := 16) (as := [(.ref 33)]) (f' := (43, [some (.ref 1), some (.int x1), some (.int x2)], [])) rfl (tX2_beginAct (d + 2) n I J 3 sp rr w nw o2315 eo2315) (fun v h hq => ?_)
          obtain ⟨rfl, rfl⟩ := hq
          refine mm_T.seg (f' := (47, [some (.ref 1), some (.int x1), some (.int x2)], [(.ref 18)])) (h' := (107, o2315, J, mm_rf 3 sp rr w nw)) 2 rfl ?_
          refine mm_T.seg (f' := (49, [some (.ref 1), some (.int x1), some (.int x2)], [(.int x2), (.int x1), (.ref 18)])) (h' := (107, o2315, J, mm_rf 3 sp rr w nw)) 2 rfl ?_
          obtain ⟨g439, hg439⟩ : ∃ z, fX7_setPlace x1 x2 o2315 = z := ⟨_, rfl⟩
          try rw [hg439] at e
          refine mm_T.call (t := 113) (as := [(.ref 18), (.int x1), (.int x2)]) (f' := (52, [some (.ref 1), some (.int x1), some (.int x2)], [])) rfl (tX7_setPlace (d + 3) x1 x2 o2315 J 3 sp rr w nw g439 hg439) (fun v h hq => ?_)
          obtain ⟨rfl, rfl⟩ := hq
          refine mm_T.seg (f' := (56, [some (.ref 1), some (.int x1), some (.int x2)], [(.ref 18)])) (h' := (107, g439, J, mm_rf 3 sp rr w nw)) 2 rfl ?_
          refine mm_T.seg (f' := (57, [some (.ref 1), some (.int x1), some (.int x2)], [(.int x2), (.ref 18)])) (h' := (107, g439, J, mm_rf 3 sp rr w nw)) 1 rfl ?_
          obtain ⟨o2316, eo2316, e⟩ := mm_bind e
          refine mm_T.call (t := 118) (as := [(.ref 18), (.int x2)]) (f' := (60, [some (.ref 1), some (.int x1), some (.int x2)], [])) rfl (tX7_burdenOf (d + 2) n x2 g439 J 3 sp rr w nw (Or.inl rfl) o2316 eo2316) (fun v h hq => ?_)
          obtain ⟨rfl, rfl⟩ := hq
          cases e
          exact mm_T.ret rfl ⟨rfl, rfl⟩
  · unfold fX11_stow at e
    refine mm_T.seg (f' := (4, [some (.ref 1), some (.int x1), some (.int x2)], [(.ref 18)])) (h' := (107, I, J, mm_rf 19 sp rr w nw)) 2 rfl ?_
    refine mm_T.seg (f' := (5, [some (.ref 1), some (.int x1), some (.int x2)], [(.int x1), (.ref 18)])) (h' := (107, I, J, mm_rf 19 sp rr w nw)) 1 rfl ?_
    obtain ⟨g437, hg437⟩ : ∃ z, fX7_isLoad x1 I 19 = z := ⟨_, rfl⟩
    try rw [hg437] at e
    refine mm_T.call (t := 102) (as := [(.ref 18), (.int x1)]) (f' := (8, [some (.ref 1), some (.int x1), some (.int x2)], [])) rfl (tX7_isLoad (d + 4) x1 I J 19 sp rr w nw (Or.inr rfl) g437 hg437) (fun v h hq => ?_)
    obtain ⟨rfl, rfl⟩ := hq
    refine mm_T.br (c := g437 = 0) (a := ((34, [some (.ref 1), some (.int x1), some (.int x2)], []), (107, I, J, mm_rf 19 sp rr w nw))) (b := ((11, [some (.ref 1), some (.int x1), some (.int x2)], []), (107, I, J, mm_rf 19 sp rr w nw))) rfl (fun h2311 => ?_) (fun h2311 => ?_)
    · rw [if_pos h2311] at e
      refine mm_T.seg (f' := (35, [some (.ref 1), some (.int x1), some (.int x2)], [(.int (-1))])) (h' := (107, I, J, mm_rf 19 sp rr w nw)) 1 rfl ?_
      cases e
      exact mm_T.ret rfl ⟨rfl, rfl⟩
    · rw [if_neg h2311] at e
      refine mm_T.seg (f' := (15, [some (.ref 1), some (.int x1), some (.int x2)], [(.ref 18)])) (h' := (107, I, J, mm_rf 19 sp rr w nw)) 2 rfl ?_
      refine mm_T.seg (f' := (16, [some (.ref 1), some (.int x1), some (.int x2)], [(.int x2), (.ref 18)])) (h' := (107, I, J, mm_rf 19 sp rr w nw)) 1 rfl ?_
      obtain ⟨g438, hg438⟩ : ∃ z, fX7_isBoard x2 I 19 = z := ⟨_, rfl⟩
      try rw [hg438] at e
      refine mm_T.call (t := 101) (as := [(.ref 18), (.int x2)]) (f' := (19, [some (.ref 1), some (.int x1), some (.int x2)], [])) rfl (tX7_isBoard (d + 4) x2 I J 19 sp rr w nw (Or.inr rfl) g438 hg438) (fun v h hq => ?_)
      obtain ⟨rfl, rfl⟩ := hq
      refine mm_T.br (c := g438 = 0) (a := ((34, [some (.ref 1), some (.int x1), some (.int x2)], []), (107, I, J, mm_rf 19 sp rr w nw))) (b := ((22, [some (.ref 1), some (.int x1), some (.int x2)], []), (107, I, J, mm_rf 19 sp rr w nw))) rfl (fun h2312 => ?_) (fun h2312 => ?_)
      · rw [if_pos h2312] at e
        refine mm_T.seg (f' := (35, [some (.ref 1), some (.int x1), some (.int x2)], [(.int (-1))])) (h' := (107, I, J, mm_rf 19 sp rr w nw)) 1 rfl ?_
        cases e
        exact mm_T.ret rfl ⟨rfl, rfl⟩
      · rw [if_neg h2312] at e
        refine mm_T.seg (f' := (26, [some (.ref 1), some (.int x1), some (.int x2)], [(.ref 18)])) (h' := (107, I, J, mm_rf 19 sp rr w nw)) 2 rfl ?_
        refine mm_T.seg (f' := (28, [some (.ref 1), some (.int x1), some (.int x2)], [(.int x2), (.int x1), (.ref 18)])) (h' := (107, I, J, mm_rf 19 sp rr w nw)) 2 rfl ?_
        obtain ⟨o2313, eo2313, e⟩ := mm_bind e
        refine mm_T.call (t := 121) (as := [(.ref 18), (.int x1), (.int x2)]) (f' := (31, [some (.ref 1), some (.int x1), some (.int x2)], [])) rfl (tX7_canPut (d + 0) n x1 x2 I J 19 sp rr w nw (Or.inr rfl) o2313 eo2313) (fun v h hq => ?_)
        obtain ⟨rfl, rfl⟩ := hq
        refine mm_T.br (c := o2313 = 0) (a := ((34, [some (.ref 1), some (.int x1), some (.int x2)], []), (107, I, J, mm_rf 19 sp rr w nw))) (b := ((36, [some (.ref 1), some (.int x1), some (.int x2)], []), (107, I, J, mm_rf 19 sp rr w nw))) rfl (fun h2314 => ?_) (fun h2314 => ?_)
        · rw [if_pos h2314] at e
          refine mm_T.seg (f' := (35, [some (.ref 1), some (.int x1), some (.int x2)], [(.int (-1))])) (h' := (107, I, J, mm_rf 19 sp rr w nw)) 1 rfl ?_
          cases e
          exact mm_T.ret rfl ⟨rfl, rfl⟩
        · rw [if_neg h2314] at e
          refine mm_T.seg (f' := (40, [some (.ref 1), some (.int x1), some (.int x2)], [(.ref 33)])) (h' := (107, I, J, mm_rf 19 sp rr w nw)) 2 rfl ?_
          obtain ⟨o2315, eo2315, e⟩ := mm_bind e
          refine mm_T.call (t := 16) (as := [(.ref 33)]) (f' := (43, [some (.ref 1), some (.int x1), some (.int x2)], [])) rfl (tX2_beginAct (d + 2) n I J 19 sp rr w nw o2315 eo2315) (fun v h hq => ?_)
          obtain ⟨rfl, rfl⟩ := hq
          refine mm_T.seg (f' := (47, [some (.ref 1), some (.int x1), some (.int x2)], [(.ref 18)])) (h' := (107, o2315, J, mm_rf 19 sp rr w nw)) 2 rfl ?_
          refine mm_T.seg (f' := (49, [some (.ref 1), some (.int x1), some (.int x2)], [(.int x2), (.int x1), (.ref 18)])) (h' := (107, o2315, J, mm_rf 19 sp rr w nw)) 2 rfl ?_
          obtain ⟨g439, hg439⟩ : ∃ z, fX7_setPlace x1 x2 o2315 = z := ⟨_, rfl⟩
          try rw [hg439] at e
          refine mm_T.call (t := 113) (as := [(.ref 18), (.int x1), (.int x2)]) (f' := (52, [some (.ref 1), some (.int x1), some (.int x2)], [])) rfl (tX7_setPlace (d + 3) x1 x2 o2315 J 19 sp rr w nw g439 hg439) (fun v h hq => ?_)
          obtain ⟨rfl, rfl⟩ := hq
          refine mm_T.seg (f' := (56, [some (.ref 1), some (.int x1), some (.int x2)], [(.ref 18)])) (h' := (107, g439, J, mm_rf 19 sp rr w nw)) 2 rfl ?_
          refine mm_T.seg (f' := (57, [some (.ref 1), some (.int x1), some (.int x2)], [(.int x2), (.ref 18)])) (h' := (107, g439, J, mm_rf 19 sp rr w nw)) 1 rfl ?_
          obtain ⟨o2316, eo2316, e⟩ := mm_bind e
          refine mm_T.call (t := 118) (as := [(.ref 18), (.int x2)]) (f' := (60, [some (.ref 1), some (.int x1), some (.int x2)], [])) rfl (tX7_burdenOf (d + 2) n x2 g439 J 19 sp rr w nw (Or.inr rfl) o2316 eo2316) (fun v h hq => ?_)
          obtain ⟨rfl, rfl⟩ := hq
          cases e
          exact mm_T.ret rfl ⟨rfl, rfl⟩
set_option maxRecDepth 100000 in
set_option maxHeartbeats 4000000 in
theorem tX11_take (d n : Nat) (x1 : Int32) (I : Nat → Nat → Int32) (J : Nat → Nat → Int64) (rv sp rr w nw : Nat) (hrv : rv = 3 ∨ rv = 19) (out : Int32 × (Nat → Nat → Int32)) (e : fX11_take n x1 I rv = some out) : mm_T none (d + 4) 171 (mm_ent 171 [(.ref 1), (.int x1)]) (107, I, J, mm_rf rv sp rr w nw) (fun v h => v = some (.int out.1) ∧ h = (107, out.2, J, mm_rf rv sp rr w nw)) := by
  rcases hrv with rfl | rfl
  · unfold fX11_take at e
    refine mm_T.seg (f' := (4, [some (.ref 1), some (.int x1), none], [(.ref 18)])) (h' := (107, I, J, mm_rf 3 sp rr w nw)) 2 rfl ?_
    refine mm_T.seg (f' := (5, [some (.ref 1), some (.int x1), none], [(.int x1), (.ref 18)])) (h' := (107, I, J, mm_rf 3 sp rr w nw)) 1 rfl ?_
    obtain ⟨g440, hg440⟩ : ∃ z, fX7_isLoad x1 I 3 = z := ⟨_, rfl⟩
    try rw [hg440] at e
    refine mm_T.call (t := 102) (as := [(.ref 18), (.int x1)]) (f' := (8, [some (.ref 1), some (.int x1), none], [])) rfl (tX7_isLoad (d + 3) x1 I J 3 sp rr w nw (Or.inl rfl) g440 hg440) (fun v h hq => ?_)
    obtain ⟨rfl, rfl⟩ := hq
    refine mm_T.br (c := g440 = 0) (a := ((11, [some (.ref 1), some (.int x1), none], []), (107, I, J, mm_rf 3 sp rr w nw))) (b := ((13, [some (.ref 1), some (.int x1), none], []), (107, I, J, mm_rf 3 sp rr w nw))) rfl (fun h2317 => ?_) (fun h2317 => ?_)
    · rw [if_pos h2317] at e
      refine mm_T.seg (f' := (12, [some (.ref 1), some (.int x1), none], [(.int (-1))])) (h' := (107, I, J, mm_rf 3 sp rr w nw)) 1 rfl ?_
      cases e
      exact mm_T.ret rfl ⟨rfl, rfl⟩
    · rw [if_neg h2317] at e
      refine mm_T.seg (f' := (17, [some (.ref 1), some (.int x1), none], [(.ref 18)])) (h' := (107, I, J, mm_rf 3 sp rr w nw)) 2 rfl ?_
      refine mm_T.seg (f' := (18, [some (.ref 1), some (.int x1), none], [(.int x1), (.ref 18)])) (h' := (107, I, J, mm_rf 3 sp rr w nw)) 1 rfl ?_
      obtain ⟨g441, hg441⟩ : ∃ z, fX7_placeOf x1 I = z := ⟨_, rfl⟩
      try rw [hg441] at e
      refine mm_T.call (t := 112) (as := [(.ref 18), (.int x1)]) (f' := (21, [some (.ref 1), some (.int x1), none], [])) rfl (tX7_placeOf (d + 2) x1 I J 3 sp rr w nw g441 hg441) (fun v h hq => ?_)
      obtain ⟨rfl, rfl⟩ := hq
      refine mm_T.seg (f' := (26, [some (.ref 1), some (.int x1), some (.int g441)], [(.ref 18)])) (h' := (107, I, J, mm_rf 3 sp rr w nw)) 3 rfl ?_
      refine mm_T.seg (f' := (27, [some (.ref 1), some (.int x1), some (.int g441)], [(.int g441), (.ref 18)])) (h' := (107, I, J, mm_rf 3 sp rr w nw)) 1 rfl ?_
      obtain ⟨g442, hg442⟩ : ∃ z, fX7_isBoard g441 I 3 = z := ⟨_, rfl⟩
      try rw [hg442] at e
      refine mm_T.call (t := 101) (as := [(.ref 18), (.int g441)]) (f' := (30, [some (.ref 1), some (.int x1), some (.int g441)], [])) rfl (tX7_isBoard (d + 3) g441 I J 3 sp rr w nw (Or.inl rfl) g442 hg442) (fun v h hq => ?_)
      obtain ⟨rfl, rfl⟩ := hq
      refine mm_T.br (c := g442 = 0) (a := ((44, [some (.ref 1), some (.int x1), some (.int g441)], []), (107, I, J, mm_rf 3 sp rr w nw))) (b := ((33, [some (.ref 1), some (.int x1), some (.int g441)], []), (107, I, J, mm_rf 3 sp rr w nw))) rfl (fun h2318 => ?_) (fun h2318 => ?_)
      · rw [if_pos h2318] at e
        refine mm_T.seg (f' := (45, [some (.ref 1), some (.int x1), some (.int g441)], [(.int (-1))])) (h' := (107, I, J, mm_rf 3 sp rr w nw)) 1 rfl ?_
        cases e
        exact mm_T.ret rfl ⟨rfl, rfl⟩
      · rw [if_neg h2318] at e
        refine mm_T.seg (f' := (37, [some (.ref 1), some (.int x1), some (.int g441)], [(.ref 18)])) (h' := (107, I, J, mm_rf 3 sp rr w nw)) 2 rfl ?_
        refine mm_T.seg (f' := (38, [some (.ref 1), some (.int x1), some (.int g441)], [(.int g441), (.ref 18)])) (h' := (107, I, J, mm_rf 3 sp rr w nw)) 1 rfl ?_
        obtain ⟨g443, hg443⟩ : ∃ z, fX7_isAtBank g441 I 3 = z := ⟨_, rfl⟩
        try rw [hg443] at e
        refine mm_T.call (t := 119) (as := [(.ref 18), (.int g441)]) (f' := (41, [some (.ref 1), some (.int x1), some (.int g441)], [])) rfl (tX7_isAtBank (d + 0) g441 I J 3 sp rr w nw (Or.inl rfl) g443 hg443) (fun v h hq => ?_)
        obtain ⟨rfl, rfl⟩ := hq
        refine mm_T.br (c := g443 = 0) (a := ((44, [some (.ref 1), some (.int x1), some (.int g441)], []), (107, I, J, mm_rf 3 sp rr w nw))) (b := ((46, [some (.ref 1), some (.int x1), some (.int g441)], []), (107, I, J, mm_rf 3 sp rr w nw))) rfl (fun h2319 => ?_) (fun h2319 => ?_)
        · rw [if_pos h2319] at e
          refine mm_T.seg (f' := (45, [some (.ref 1), some (.int x1), some (.int g441)], [(.int (-1))])) (h' := (107, I, J, mm_rf 3 sp rr w nw)) 1 rfl ?_
          cases e
          exact mm_T.ret rfl ⟨rfl, rfl⟩
        · rw [if_neg h2319] at e
          refine mm_T.seg (f' := (50, [some (.ref 1), some (.int x1), some (.int g441)], [(.ref 33)])) (h' := (107, I, J, mm_rf 3 sp rr w nw)) 2 rfl ?_
          obtain ⟨o2320, eo2320, e⟩ := mm_bind e
          refine mm_T.call (t := 16) (as := [(.ref 33)]) (f' := (53, [some (.ref 1), some (.int x1), some (.int g441)], [])) rfl (tX2_beginAct (d + 1) n I J 3 sp rr w nw o2320 eo2320) (fun v h hq => ?_)
          obtain ⟨rfl, rfl⟩ := hq
          refine mm_T.seg (f' := (57, [some (.ref 1), some (.int x1), some (.int g441)], [(.ref 18)])) (h' := (107, o2320, J, mm_rf 3 sp rr w nw)) 2 rfl ?_
          refine mm_T.seg (f' := (62, [some (.ref 1), some (.int x1), some (.int g441)], [(.ref 18), (.int x1), (.ref 18)])) (h' := (107, o2320, J, mm_rf 3 sp rr w nw)) 3 rfl ?_
          refine mm_T.seg (f' := (63, [some (.ref 1), some (.int x1), some (.int g441)], [(.int g441), (.ref 18), (.int x1), (.ref 18)])) (h' := (107, o2320, J, mm_rf 3 sp rr w nw)) 1 rfl ?_
          obtain ⟨g444, hg444⟩ : ∃ z, fX7_bankOf g441 o2320 = z := ⟨_, rfl⟩
          try rw [hg444] at e
          refine mm_T.call (t := 120) (as := [(.ref 18), (.int g441)]) (f' := (66, [some (.ref 1), some (.int x1), some (.int g441)], [(.int x1), (.ref 18)])) rfl (tX7_bankOf (d + 0) g441 o2320 J 3 sp rr w nw g444 hg444) (fun v h hq => ?_)
          obtain ⟨rfl, rfl⟩ := hq
          obtain ⟨g445, hg445⟩ : ∃ z, fX7_setPlace x1 g444 o2320 = z := ⟨_, rfl⟩
          try rw [hg445] at e
          refine mm_T.call (t := 113) (as := [(.ref 18), (.int x1), (.int g444)]) (f' := (69, [some (.ref 1), some (.int x1), some (.int g441)], [])) rfl (tX7_setPlace (d + 2) x1 g444 o2320 J 3 sp rr w nw g445 hg445) (fun v h hq => ?_)
          obtain ⟨rfl, rfl⟩ := hq
          refine mm_T.seg (f' := (70, [some (.ref 1), some (.int x1), some (.int g441)], [(.int g441)])) (h' := (107, g445, J, mm_rf 3 sp rr w nw)) 1 rfl ?_
          cases e
          exact mm_T.ret rfl ⟨rfl, rfl⟩
  · unfold fX11_take at e
    refine mm_T.seg (f' := (4, [some (.ref 1), some (.int x1), none], [(.ref 18)])) (h' := (107, I, J, mm_rf 19 sp rr w nw)) 2 rfl ?_
    refine mm_T.seg (f' := (5, [some (.ref 1), some (.int x1), none], [(.int x1), (.ref 18)])) (h' := (107, I, J, mm_rf 19 sp rr w nw)) 1 rfl ?_
    obtain ⟨g440, hg440⟩ : ∃ z, fX7_isLoad x1 I 19 = z := ⟨_, rfl⟩
    try rw [hg440] at e
    refine mm_T.call (t := 102) (as := [(.ref 18), (.int x1)]) (f' := (8, [some (.ref 1), some (.int x1), none], [])) rfl (tX7_isLoad (d + 3) x1 I J 19 sp rr w nw (Or.inr rfl) g440 hg440) (fun v h hq => ?_)
    obtain ⟨rfl, rfl⟩ := hq
    refine mm_T.br (c := g440 = 0) (a := ((11, [some (.ref 1), some (.int x1), none], []), (107, I, J, mm_rf 19 sp rr w nw))) (b := ((13, [some (.ref 1), some (.int x1), none], []), (107, I, J, mm_rf 19 sp rr w nw))) rfl (fun h2317 => ?_) (fun h2317 => ?_)
    · rw [if_pos h2317] at e
      refine mm_T.seg (f' := (12, [some (.ref 1), some (.int x1), none], [(.int (-1))])) (h' := (107, I, J, mm_rf 19 sp rr w nw)) 1 rfl ?_
      cases e
      exact mm_T.ret rfl ⟨rfl, rfl⟩
    · rw [if_neg h2317] at e
      refine mm_T.seg (f' := (17, [some (.ref 1), some (.int x1), none], [(.ref 18)])) (h' := (107, I, J, mm_rf 19 sp rr w nw)) 2 rfl ?_
      refine mm_T.seg (f' := (18, [some (.ref 1), some (.int x1), none], [(.int x1), (.ref 18)])) (h' := (107, I, J, mm_rf 19 sp rr w nw)) 1 rfl ?_
      obtain ⟨g441, hg441⟩ : ∃ z, fX7_placeOf x1 I = z := ⟨_, rfl⟩
      try rw [hg441] at e
      refine mm_T.call (t := 112) (as := [(.ref 18), (.int x1)]) (f' := (21, [some (.ref 1), some (.int x1), none], [])) rfl (tX7_placeOf (d + 2) x1 I J 19 sp rr w nw g441 hg441) (fun v h hq => ?_)
      obtain ⟨rfl, rfl⟩ := hq
      refine mm_T.seg (f' := (26, [some (.ref 1), some (.int x1), some (.int g441)], [(.ref 18)])) (h' := (107, I, J, mm_rf 19 sp rr w nw)) 3 rfl ?_
      refine mm_T.seg (f' := (27, [some (.ref 1), some (.int x1), some (.int g441)], [(.int g441), (.ref 18)])) (h' := (107, I, J, mm_rf 19 sp rr w nw)) 1 rfl ?_
      obtain ⟨g442, hg442⟩ : ∃ z, fX7_isBoard g441 I 19 = z := ⟨_, rfl⟩
      try rw [hg442] at e
      refine mm_T.call (t := 101) (as := [(.ref 18), (.int g441)]) (f' := (30, [some (.ref 1), some (.int x1), some (.int g441)], [])) rfl (tX7_isBoard (d + 3) g441 I J 19 sp rr w nw (Or.inr rfl) g442 hg442) (fun v h hq => ?_)
      obtain ⟨rfl, rfl⟩ := hq
      refine mm_T.br (c := g442 = 0) (a := ((44, [some (.ref 1), some (.int x1), some (.int g441)], []), (107, I, J, mm_rf 19 sp rr w nw))) (b := ((33, [some (.ref 1), some (.int x1), some (.int g441)], []), (107, I, J, mm_rf 19 sp rr w nw))) rfl (fun h2318 => ?_) (fun h2318 => ?_)
      · rw [if_pos h2318] at e
        refine mm_T.seg (f' := (45, [some (.ref 1), some (.int x1), some (.int g441)], [(.int (-1))])) (h' := (107, I, J, mm_rf 19 sp rr w nw)) 1 rfl ?_
        cases e
        exact mm_T.ret rfl ⟨rfl, rfl⟩
      · rw [if_neg h2318] at e
        refine mm_T.seg (f' := (37, [some (.ref 1), some (.int x1), some (.int g441)], [(.ref 18)])) (h' := (107, I, J, mm_rf 19 sp rr w nw)) 2 rfl ?_
        refine mm_T.seg (f' := (38, [some (.ref 1), some (.int x1), some (.int g441)], [(.int g441), (.ref 18)])) (h' := (107, I, J, mm_rf 19 sp rr w nw)) 1 rfl ?_
        obtain ⟨g443, hg443⟩ : ∃ z, fX7_isAtBank g441 I 19 = z := ⟨_, rfl⟩
        try rw [hg443] at e
        refine mm_T.call (t := 119) (as := [(.ref 18), (.int g441)]) (f' := (41, [some (.ref 1), some (.int x1), some (.int g441)], [])) rfl (tX7_isAtBank (d + 0) g441 I J 19 sp rr w nw (Or.inr rfl) g443 hg443) (fun v h hq => ?_)
        obtain ⟨rfl, rfl⟩ := hq
        refine mm_T.br (c := g443 = 0) (a := ((44, [some (.ref 1), some (.int x1), some (.int g441)], []), (107, I, J, mm_rf 19 sp rr w nw))) (b := ((46, [some (.ref 1), some (.int x1), some (.int g441)], []), (107, I, J, mm_rf 19 sp rr w nw))) rfl (fun h2319 => ?_) (fun h2319 => ?_)
        · rw [if_pos h2319] at e
          refine mm_T.seg (f' := (45, [some (.ref 1), some (.int x1), some (.int g441)], [(.int (-1))])) (h' := (107, I, J, mm_rf 19 sp rr w nw)) 1 rfl ?_
          cases e
          exact mm_T.ret rfl ⟨rfl, rfl⟩
        · rw [if_neg h2319] at e
          refine mm_T.seg (f' := (50, [some (.ref 1), some (.int x1), some (.int g441)], [(.ref 33)])) (h' := (107, I, J, mm_rf 19 sp rr w nw)) 2 rfl ?_
          obtain ⟨o2320, eo2320, e⟩ := mm_bind e
          refine mm_T.call (t := 16) (as := [(.ref 33)]) (f' := (53, [some (.ref 1), some (.int x1), some (.int g441)], [])) rfl (tX2_beginAct (d + 1) n I J 19 sp rr w nw o2320 eo2320) (fun v h hq => ?_)
          obtain ⟨rfl, rfl⟩ := hq
          refine mm_T.seg (f' := (57, [some (.ref 1), some (.int x1), some (.int g441)], [(.ref 18)])) (h' := (107, o2320, J, mm_rf 19 sp rr w nw)) 2 rfl ?_
          refine mm_T.seg (f' := (62, [some (.ref 1), some (.int x1), some (.int g441)], [(.ref 18), (.int x1), (.ref 18)])) (h' := (107, o2320, J, mm_rf 19 sp rr w nw)) 3 rfl ?_
          refine mm_T.seg (f' := (63, [some (.ref 1), some (.int x1), some (.int g441)], [(.int g441), (.ref 18), (.int x1), (.ref 18)])) (h' := (107, o2320, J, mm_rf 19 sp rr w nw)) 1 rfl ?_
          obtain ⟨g444, hg444⟩ : ∃ z, fX7_bankOf g441 o2320 = z := ⟨_, rfl⟩
          try rw [hg444] at e
          refine mm_T.call (t := 120) (as := [(.ref 18), (.int g441)]) (f' := (66, [some (.ref 1), some (.int x1), some (.int g441)], [(.int x1), (.ref 18)])) rfl (tX7_bankOf (d + 0) g441 o2320 J 19 sp rr w nw g444 hg444) (fun v h hq => ?_)
          obtain ⟨rfl, rfl⟩ := hq
          obtain ⟨g445, hg445⟩ : ∃ z, fX7_setPlace x1 g444 o2320 = z := ⟨_, rfl⟩
          try rw [hg445] at e
          refine mm_T.call (t := 113) (as := [(.ref 18), (.int x1), (.int g444)]) (f' := (69, [some (.ref 1), some (.int x1), some (.int g441)], [])) rfl (tX7_setPlace (d + 2) x1 g444 o2320 J 19 sp rr w nw g445 hg445) (fun v h hq => ?_)
          obtain ⟨rfl, rfl⟩ := hq
          refine mm_T.seg (f' := (70, [some (.ref 1), some (.int x1), some (.int g441)], [(.int g441)])) (h' := (107, g445, J, mm_rf 19 sp rr w nw)) 1 rfl ?_
          cases e
          exact mm_T.ret rfl ⟨rfl, rfl⟩
set_option maxRecDepth 100000 in
set_option maxHeartbeats 4000000 in
theorem tX11_cool (d n : Nat) (x1 : Int32) (x2 : Int32) (I : Nat → Nat → Int32) (J : Nat → Nat → Int64) (rv sp rr w nw : Nat) (hrv : rv = 3 ∨ rv = 19) (out : Int32 × (Nat → Nat → Int32)) (e : fX11_cool n x1 x2 I rv = some out) : mm_T none (d + 3) 172 (mm_ent 172 [(.ref 1), (.int x1), (.int x2)]) (107, I, J, mm_rf rv sp rr w nw) (fun v h => v = some (.int out.1) ∧ h = (107, out.2, J, mm_rf rv sp rr w nw)) := by
  rcases hrv with rfl | rfl
  · unfold fX11_cool at e
    refine mm_T.seg (f' := (4, [some (.ref 1), some (.int x1), some (.int x2)], [(.ref 18)])) (h' := (107, I, J, mm_rf 3 sp rr w nw)) 2 rfl ?_
    refine mm_T.seg (f' := (5, [some (.ref 1), some (.int x1), some (.int x2)], [(.int x1), (.ref 18)])) (h' := (107, I, J, mm_rf 3 sp rr w nw)) 1 rfl ?_
    obtain ⟨g446, hg446⟩ : ∃ z, fX7_isBoard x1 I 3 = z := ⟨_, rfl⟩
    try rw [hg446] at e
    refine mm_T.call (t := 101) (as := [(.ref 18), (.int x1)]) (f' := (8, [some (.ref 1), some (.int x1), some (.int x2)], [])) rfl (tX7_isBoard (d + 2) x1 I J 3 sp rr w nw (Or.inl rfl) g446 hg446) (fun v h hq => ?_)
    obtain ⟨rfl, rfl⟩ := hq
    refine mm_T.br (c := g446 = 0) (a := ((22, [some (.ref 1), some (.int x1), some (.int x2)], []), (107, I, J, mm_rf 3 sp rr w nw))) (b := ((11, [some (.ref 1), some (.int x1), some (.int x2)], []), (107, I, J, mm_rf 3 sp rr w nw))) rfl (fun h2321 => ?_) (fun h2321 => ?_)
    · rw [if_pos h2321] at e
      refine mm_T.seg (f' := (23, [some (.ref 1), some (.int x1), some (.int x2)], [(.int (-1))])) (h' := (107, I, J, mm_rf 3 sp rr w nw)) 1 rfl ?_
      cases e
      exact mm_T.ret rfl ⟨rfl, rfl⟩
    · rw [if_neg h2321] at e
      refine mm_T.seg (f' := (13, [some (.ref 1), some (.int x1), some (.int x2)], [(.int 1), (.int x2)])) (h' := (107, I, J, mm_rf 3 sp rr w nw)) 2 rfl ?_
      refine mm_T.br (c := x2 < 1) (a := ((22, [some (.ref 1), some (.int x1), some (.int x2)], []), (107, I, J, mm_rf 3 sp rr w nw))) (b := ((16, [some (.ref 1), some (.int x1), some (.int x2)], []), (107, I, J, mm_rf 3 sp rr w nw))) rfl (fun h2322 => ?_) (fun h2322 => ?_)
      · rw [if_pos h2322] at e
        refine mm_T.seg (f' := (23, [some (.ref 1), some (.int x1), some (.int x2)], [(.int (-1))])) (h' := (107, I, J, mm_rf 3 sp rr w nw)) 1 rfl ?_
        cases e
        exact mm_T.ret rfl ⟨rfl, rfl⟩
      · rw [if_neg h2322] at e
        refine mm_T.seg (f' := (19, [some (.ref 1), some (.int x1), some (.int x2)], [(.int 9), (.int x2)])) (h' := (107, I, J, mm_rf 3 sp rr w nw)) 2 rfl ?_
        refine mm_T.br (c := 9 < x2) (a := ((22, [some (.ref 1), some (.int x1), some (.int x2)], []), (107, I, J, mm_rf 3 sp rr w nw))) (b := ((24, [some (.ref 1), some (.int x1), some (.int x2)], []), (107, I, J, mm_rf 3 sp rr w nw))) rfl (fun h2323 => ?_) (fun h2323 => ?_)
        · rw [if_pos h2323] at e
          refine mm_T.seg (f' := (23, [some (.ref 1), some (.int x1), some (.int x2)], [(.int (-1))])) (h' := (107, I, J, mm_rf 3 sp rr w nw)) 1 rfl ?_
          cases e
          exact mm_T.ret rfl ⟨rfl, rfl⟩
        · rw [if_neg h2323] at e
          refine mm_T.seg (f' := (28, [some (.ref 1), some (.int x1), some (.int x2)], [(.ref 33)])) (h' := (107, I, J, mm_rf 3 sp rr w nw)) 2 rfl ?_
          obtain ⟨o2324, eo2324, e⟩ := mm_bind e
          refine mm_T.call (t := 16) (as := [(.ref 33)]) (f' := (31, [some (.ref 1), some (.int x1), some (.int x2)], [])) rfl (tX2_beginAct (d + 0) n I J 3 sp rr w nw o2324 eo2324) (fun v h hq => ?_)
          obtain ⟨rfl, rfl⟩ := hq
          refine mm_T.seg (f' := (35, [some (.ref 1), some (.int x1), some (.int x2)], [(.ref 18)])) (h' := (107, o2324, J, mm_rf 3 sp rr w nw)) 2 rfl ?_
          refine mm_T.seg (f' := (41, [some (.ref 1), some (.int x1), some (.int x2)], [(.ref 18), (.int 0), (.int x1), (.ref 18)])) (h' := (107, o2324, J, mm_rf 3 sp rr w nw)) 4 rfl ?_
          refine mm_T.seg (f' := (42, [some (.ref 1), some (.int x1), some (.int x2)], [(.int x1), (.ref 18), (.int 0), (.int x1), (.ref 18)])) (h' := (107, o2324, J, mm_rf 3 sp rr w nw)) 1 rfl ?_
          obtain ⟨g447, hg447⟩ : ∃ z, fX7_heatOf x1 o2324 = z := ⟨_, rfl⟩
          try rw [hg447] at e
          refine mm_T.call (t := 107) (as := [(.ref 18), (.int x1)]) (f' := (45, [some (.ref 1), some (.int x1), some (.int x2)], [(.int 0), (.int x1), (.ref 18)])) rfl (tX7_heatOf (d + 0) x1 o2324 J 3 sp rr w nw g447 hg447) (fun v h hq => ?_)
          obtain ⟨rfl, rfl⟩ := hq
          refine mm_T.seg (f' := (47, [some (.ref 1), some (.int x1), some (.int x2)], [(.int (g447 - x2)), (.int 0), (.int x1), (.ref 18)])) (h' := (107, o2324, J, mm_rf 3 sp rr w nw)) 2 rfl ?_
          obtain ⟨g448, hg448⟩ : ∃ z, fJ9_max 0 (g447 - x2) = z := ⟨_, rfl⟩
          try rw [hg448] at e
          refine mm_T.call (t := 347) (as := [(.int 0), (.int (g447 - x2))]) (f' := (50, [some (.ref 1), some (.int x1), some (.int x2)], [(.int x1), (.ref 18)])) rfl (tJ9_max (d + 2) 0 (g447 - x2) o2324 J 3 sp rr w nw g448 hg448) (fun v h hq => ?_)
          obtain ⟨rfl, rfl⟩ := hq
          obtain ⟨g449, hg449⟩ : ∃ z, fX7_setHeat x1 g448 o2324 = z := ⟨_, rfl⟩
          try rw [hg449] at e
          refine mm_T.call (t := 108) (as := [(.ref 18), (.int x1), (.int g448)]) (f' := (53, [some (.ref 1), some (.int x1), some (.int x2)], [])) rfl (tX7_setHeat (d + 0) x1 g448 o2324 J 3 sp rr w nw g449 hg449) (fun v h hq => ?_)
          obtain ⟨rfl, rfl⟩ := hq
          refine mm_T.seg (f' := (57, [some (.ref 1), some (.int x1), some (.int x2)], [(.ref 18)])) (h' := (107, g449, J, mm_rf 3 sp rr w nw)) 2 rfl ?_
          refine mm_T.seg (f' := (58, [some (.ref 1), some (.int x1), some (.int x2)], [(.int x1), (.ref 18)])) (h' := (107, g449, J, mm_rf 3 sp rr w nw)) 1 rfl ?_
          obtain ⟨g450, hg450⟩ : ∃ z, fX7_heatOf x1 g449 = z := ⟨_, rfl⟩
          try rw [hg450] at e
          refine mm_T.call (t := 107) (as := [(.ref 18), (.int x1)]) (f' := (61, [some (.ref 1), some (.int x1), some (.int x2)], [])) rfl (tX7_heatOf (d + 0) x1 g449 J 3 sp rr w nw g450 hg450) (fun v h hq => ?_)
          obtain ⟨rfl, rfl⟩ := hq
          cases e
          exact mm_T.ret rfl ⟨rfl, rfl⟩
  · unfold fX11_cool at e
    refine mm_T.seg (f' := (4, [some (.ref 1), some (.int x1), some (.int x2)], [(.ref 18)])) (h' := (107, I, J, mm_rf 19 sp rr w nw)) 2 rfl ?_
    refine mm_T.seg (f' := (5, [some (.ref 1), some (.int x1), some (.int x2)], [(.int x1), (.ref 18)])) (h' := (107, I, J, mm_rf 19 sp rr w nw)) 1 rfl ?_
    obtain ⟨g446, hg446⟩ : ∃ z, fX7_isBoard x1 I 19 = z := ⟨_, rfl⟩
    try rw [hg446] at e
    refine mm_T.call (t := 101) (as := [(.ref 18), (.int x1)]) (f' := (8, [some (.ref 1), some (.int x1), some (.int x2)], [])) rfl (tX7_isBoard (d + 2) x1 I J 19 sp rr w nw (Or.inr rfl) g446 hg446) (fun v h hq => ?_)
    obtain ⟨rfl, rfl⟩ := hq
    refine mm_T.br (c := g446 = 0) (a := ((22, [some (.ref 1), some (.int x1), some (.int x2)], []), (107, I, J, mm_rf 19 sp rr w nw))) (b := ((11, [some (.ref 1), some (.int x1), some (.int x2)], []), (107, I, J, mm_rf 19 sp rr w nw))) rfl (fun h2321 => ?_) (fun h2321 => ?_)
    · rw [if_pos h2321] at e
      refine mm_T.seg (f' := (23, [some (.ref 1), some (.int x1), some (.int x2)], [(.int (-1))])) (h' := (107, I, J, mm_rf 19 sp rr w nw)) 1 rfl ?_
      cases e
      exact mm_T.ret rfl ⟨rfl, rfl⟩
    · rw [if_neg h2321] at e
      refine mm_T.seg (f' := (13, [some (.ref 1), some (.int x1), some (.int x2)], [(.int 1), (.int x2)])) (h' := (107, I, J, mm_rf 19 sp rr w nw)) 2 rfl ?_
      refine mm_T.br (c := x2 < 1) (a := ((22, [some (.ref 1), some (.int x1), some (.int x2)], []), (107, I, J, mm_rf 19 sp rr w nw))) (b := ((16, [some (.ref 1), some (.int x1), some (.int x2)], []), (107, I, J, mm_rf 19 sp rr w nw))) rfl (fun h2322 => ?_) (fun h2322 => ?_)
      · rw [if_pos h2322] at e
        refine mm_T.seg (f' := (23, [some (.ref 1), some (.int x1), some (.int x2)], [(.int (-1))])) (h' := (107, I, J, mm_rf 19 sp rr w nw)) 1 rfl ?_
        cases e
        exact mm_T.ret rfl ⟨rfl, rfl⟩
      · rw [if_neg h2322] at e
        refine mm_T.seg (f' := (19, [some (.ref 1), some (.int x1), some (.int x2)], [(.int 9), (.int x2)])) (h' := (107, I, J, mm_rf 19 sp rr w nw)) 2 rfl ?_
        refine mm_T.br (c := 9 < x2) (a := ((22, [some (.ref 1), some (.int x1), some (.int x2)], []), (107, I, J, mm_rf 19 sp rr w nw))) (b := ((24, [some (.ref 1), some (.int x1), some (.int x2)], []), (107, I, J, mm_rf 19 sp rr w nw))) rfl (fun h2323 => ?_) (fun h2323 => ?_)
        · rw [if_pos h2323] at e
          refine mm_T.seg (f' := (23, [some (.ref 1), some (.int x1), some (.int x2)], [(.int (-1))])) (h' := (107, I, J, mm_rf 19 sp rr w nw)) 1 rfl ?_
          cases e
          exact mm_T.ret rfl ⟨rfl, rfl⟩
        · rw [if_neg h2323] at e
          refine mm_T.seg (f' := (28, [some (.ref 1), some (.int x1), some (.int x2)], [(.ref 33)])) (h' := (107, I, J, mm_rf 19 sp rr w nw)) 2 rfl ?_
          obtain ⟨o2324, eo2324, e⟩ := mm_bind e
          refine mm_T.call (t := 16) (as := [(.ref 33)]) (f' := (31, [some (.ref 1), some (.int x1), some (.int x2)], [])) rfl (tX2_beginAct (d + 0) n I J 19 sp rr w nw o2324 eo2324) (fun v h hq => ?_)
          obtain ⟨rfl, rfl⟩ := hq
          refine mm_T.seg (f' := (35, [some (.ref 1), some (.int x1), some (.int x2)], [(.ref 18)])) (h' := (107, o2324, J, mm_rf 19 sp rr w nw)) 2 rfl ?_
          refine mm_T.seg (f' := (41, [some (.ref 1), some (.int x1), some (.int x2)], [(.ref 18), (.int 0), (.int x1), (.ref 18)])) (h' := (107, o2324, J, mm_rf 19 sp rr w nw)) 4 rfl ?_
          refine mm_T.seg (f' := (42, [some (.ref 1), some (.int x1), some (.int x2)], [(.int x1), (.ref 18), (.int 0), (.int x1), (.ref 18)])) (h' := (107, o2324, J, mm_rf 19 sp rr w nw)) 1 rfl ?_
          obtain ⟨g447, hg447⟩ : ∃ z, fX7_heatOf x1 o2324 = z := ⟨_, rfl⟩
          try rw [hg447] at e
          refine mm_T.call (t := 107) (as := [(.ref 18), (.int x1)]) (f' := (45, [some (.ref 1), some (.int x1), some (.int x2)], [(.int 0), (.int x1), (.ref 18)])) rfl (tX7_heatOf (d + 0) x1 o2324 J 19 sp rr w nw g447 hg447) (fun v h hq => ?_)
          obtain ⟨rfl, rfl⟩ := hq
          refine mm_T.seg (f' := (47, [some (.ref 1), some (.int x1), some (.int x2)], [(.int (g447 - x2)), (.int 0), (.int x1), (.ref 18)])) (h' := (107, o2324, J, mm_rf 19 sp rr w nw)) 2 rfl ?_
          obtain ⟨g448, hg448⟩ : ∃ z, fJ9_max 0 (g447 - x2) = z := ⟨_, rfl⟩
          try rw [hg448] at e
          refine mm_T.call (t := 347) (as := [(.int 0), (.int (g447 - x2))]) (f' := (50, [some (.ref 1), some (.int x1), some (.int x2)], [(.int x1), (.ref 18)])) rfl (tJ9_max (d + 2) 0 (g447 - x2) o2324 J 19 sp rr w nw g448 hg448) (fun v h hq => ?_)
          obtain ⟨rfl, rfl⟩ := hq
          obtain ⟨g449, hg449⟩ : ∃ z, fX7_setHeat x1 g448 o2324 = z := ⟨_, rfl⟩
          try rw [hg449] at e
          refine mm_T.call (t := 108) (as := [(.ref 18), (.int x1), (.int g448)]) (f' := (53, [some (.ref 1), some (.int x1), some (.int x2)], [])) rfl (tX7_setHeat (d + 0) x1 g448 o2324 J 19 sp rr w nw g449 hg449) (fun v h hq => ?_)
          obtain ⟨rfl, rfl⟩ := hq
          refine mm_T.seg (f' := (57, [some (.ref 1), some (.int x1), some (.int x2)], [(.ref 18)])) (h' := (107, g449, J, mm_rf 19 sp rr w nw)) 2 rfl ?_
          refine mm_T.seg (f' := (58, [some (.ref 1), some (.int x1), some (.int x2)], [(.int x1), (.ref 18)])) (h' := (107, g449, J, mm_rf 19 sp rr w nw)) 1 rfl ?_
          obtain ⟨g450, hg450⟩ : ∃ z, fX7_heatOf x1 g449 = z := ⟨_, rfl⟩
          try rw [hg450] at e
          refine mm_T.call (t := 107) (as := [(.ref 18), (.int x1)]) (f' := (61, [some (.ref 1), some (.int x1), some (.int x2)], [])) rfl (tX7_heatOf (d + 0) x1 g449 J 19 sp rr w nw g450 hg450) (fun v h hq => ?_)
          obtain ⟨rfl, rfl⟩ := hq
          cases e
          exact mm_T.ret rfl ⟨rfl, rfl⟩
set_option maxRecDepth 100000 in
set_option maxHeartbeats 4000000 in
theorem tX11_undo (d n : Nat) (I : Nat → Nat → Int32) (J : Nat → Nat → Int64) (rv sp rr w nw : Nat) (out : Int32 × (Nat → Nat → Int32)) (e : fX11_undo n I = some out) : mm_T none (d + 3) 173 (mm_ent 173 [(.ref 1)]) (107, I, J, mm_rf rv sp rr w nw) (fun v h => v = some (.int out.1) ∧ h = (107, out.2, J, mm_rf rv sp rr w nw)) := by
  unfold fX11_undo at e
  refine mm_T.seg (f' := (4, [some (.ref 1)], [(.ref 33)])) (h' := (107, I, J, mm_rf rv sp rr w nw)) 2 rfl ?_
  obtain ⟨o2325, eo2325, e⟩ := mm_bind e
  refine mm_T.call (t := 17) (as := [(.ref 33)]) (f' := (7, [some (.ref 1)], [])) rfl (tX2_takeBack (d + 0) n I J rv sp rr w nw o2325 eo2325) (fun v h hq => ?_)
  obtain ⟨rfl, rfl⟩ := hq
  by_cases h2326 : o2325.1 = 0 ∨ o2325.1 = 1
  case neg => rw [if_neg h2326] at e; cases e
  rw [if_pos h2326] at e
  cases e
  first | exact mm_T.retZ (v := some (.int o2325.1)) rfl h2326 ⟨rfl, rfl⟩ | exact mm_T.retZ (v := some (.int out)) rfl h2326 ⟨rfl, rfl⟩
set_option maxRecDepth 100000 in
set_option maxHeartbeats 4000000 in
theorem tX11_redo (d n : Nat) (I : Nat → Nat → Int32) (J : Nat → Nat → Int64) (rv sp rr w nw : Nat) (out : Int32 × (Nat → Nat → Int32)) (e : fX11_redo n I = some out) : mm_T none (d + 3) 174 (mm_ent 174 [(.ref 1)]) (107, I, J, mm_rf rv sp rr w nw) (fun v h => v = some (.int out.1) ∧ h = (107, out.2, J, mm_rf rv sp rr w nw)) := by
  unfold fX11_redo at e
  refine mm_T.seg (f' := (4, [some (.ref 1)], [(.ref 33)])) (h' := (107, I, J, mm_rf rv sp rr w nw)) 2 rfl ?_
  obtain ⟨o2327, eo2327, e⟩ := mm_bind e
  refine mm_T.call (t := 18) (as := [(.ref 33)]) (f' := (7, [some (.ref 1)], [])) rfl (tX2_doAgain (d + 0) n I J rv sp rr w nw o2327 eo2327) (fun v h hq => ?_)
  obtain ⟨rfl, rfl⟩ := hq
  by_cases h2328 : o2327.1 = 0 ∨ o2327.1 = 1
  case neg => rw [if_neg h2328] at e; cases e
  rw [if_pos h2328] at e
  cases e
  first | exact mm_T.retZ (v := some (.int o2327.1)) rfl h2328 ⟨rfl, rfl⟩ | exact mm_T.retZ (v := some (.int out)) rfl h2328 ⟨rfl, rfl⟩
set_option maxRecDepth 100000 in
set_option maxHeartbeats 4000000 in
theorem tX11_landings (d n : Nat) (x1 : Int32) (I : Nat → Nat → Int32) (J : Nat → Nat → Int64) (rv sp rr w nw : Nat) (hrv : rv = 3 ∨ rv = 19) (out : Int32) (e : fX11_landings n x1 I rv = some out) : mm_T none (d + 4) 175 (mm_ent 175 [(.ref 1), (.int x1)]) (107, I, J, mm_rf rv sp rr w nw) (fun v h => v = some (.int out) ∧ h = (107, I, J, mm_rf rv sp rr w nw)) := by
  rcases hrv with rfl | rfl
  · unfold fX11_landings at e
    refine mm_T.seg (f' := (4, [some (.ref 1), some (.int x1)], [(.ref 18)])) (h' := (107, I, J, mm_rf 3 sp rr w nw)) 2 rfl ?_
    refine mm_T.seg (f' := (5, [some (.ref 1), some (.int x1)], [(.int x1), (.ref 18)])) (h' := (107, I, J, mm_rf 3 sp rr w nw)) 1 rfl ?_
    obtain ⟨g451, hg451⟩ : ∃ z, fX7_isBoard x1 I 3 = z := ⟨_, rfl⟩
    try rw [hg451] at e
    refine mm_T.call (t := 101) (as := [(.ref 18), (.int x1)]) (f' := (8, [some (.ref 1), some (.int x1)], [])) rfl (tX7_isBoard (d + 3) x1 I J 3 sp rr w nw (Or.inl rfl) g451 hg451) (fun v h hq => ?_)
    obtain ⟨rfl, rfl⟩ := hq
    refine mm_T.br (c := g451 = 0) (a := ((22, [some (.ref 1), some (.int x1)], []), (107, I, J, mm_rf 3 sp rr w nw))) (b := ((11, [some (.ref 1), some (.int x1)], []), (107, I, J, mm_rf 3 sp rr w nw))) rfl (fun h2329 => ?_) (fun h2329 => ?_)
    · rw [if_pos h2329] at e
      refine mm_T.seg (f' := (23, [some (.ref 1), some (.int x1)], [(.int (-1))])) (h' := (107, I, J, mm_rf 3 sp rr w nw)) 1 rfl ?_
      cases e
      exact mm_T.ret rfl ⟨rfl, rfl⟩
    · rw [if_neg h2329] at e
      refine mm_T.seg (f' := (15, [some (.ref 1), some (.int x1)], [(.ref 37)])) (h' := (107, I, J, mm_rf 3 sp rr w nw)) 2 rfl ?_
      refine mm_T.seg (f' := (16, [some (.ref 1), some (.int x1)], [(.int x1), (.ref 37)])) (h' := (107, I, J, mm_rf 3 sp rr w nw)) 1 rfl ?_
      obtain ⟨o2330, eo2330, e⟩ := mm_bind e
      refine mm_T.call (t := 85) (as := [(.ref 37), (.int x1)]) (f' := (19, [some (.ref 1), some (.int x1)], [])) rfl (tX6_landingBits (d + 0) n x1 I J 3 sp rr w nw (Or.inl rfl) o2330 eo2330) (fun v h hq => ?_)
      obtain ⟨rfl, rfl⟩ := hq
      refine mm_T.seg (f' := (23, [some (.ref 1), some (.int x1)], [(.int o2330)])) (h' := (107, I, J, mm_rf 3 sp rr w nw)) 1 rfl ?_
      cases e
      exact mm_T.ret rfl ⟨rfl, rfl⟩
  · unfold fX11_landings at e
    refine mm_T.seg (f' := (4, [some (.ref 1), some (.int x1)], [(.ref 18)])) (h' := (107, I, J, mm_rf 19 sp rr w nw)) 2 rfl ?_
    refine mm_T.seg (f' := (5, [some (.ref 1), some (.int x1)], [(.int x1), (.ref 18)])) (h' := (107, I, J, mm_rf 19 sp rr w nw)) 1 rfl ?_
    obtain ⟨g451, hg451⟩ : ∃ z, fX7_isBoard x1 I 19 = z := ⟨_, rfl⟩
    try rw [hg451] at e
    refine mm_T.call (t := 101) (as := [(.ref 18), (.int x1)]) (f' := (8, [some (.ref 1), some (.int x1)], [])) rfl (tX7_isBoard (d + 3) x1 I J 19 sp rr w nw (Or.inr rfl) g451 hg451) (fun v h hq => ?_)
    obtain ⟨rfl, rfl⟩ := hq
    refine mm_T.br (c := g451 = 0) (a := ((22, [some (.ref 1), some (.int x1)], []), (107, I, J, mm_rf 19 sp rr w nw))) (b := ((11, [some (.ref 1), some (.int x1)], []), (107, I, J, mm_rf 19 sp rr w nw))) rfl (fun h2329 => ?_) (fun h2329 => ?_)
    · rw [if_pos h2329] at e
      refine mm_T.seg (f' := (23, [some (.ref 1), some (.int x1)], [(.int (-1))])) (h' := (107, I, J, mm_rf 19 sp rr w nw)) 1 rfl ?_
      cases e
      exact mm_T.ret rfl ⟨rfl, rfl⟩
    · rw [if_neg h2329] at e
      refine mm_T.seg (f' := (15, [some (.ref 1), some (.int x1)], [(.ref 37)])) (h' := (107, I, J, mm_rf 19 sp rr w nw)) 2 rfl ?_
      refine mm_T.seg (f' := (16, [some (.ref 1), some (.int x1)], [(.int x1), (.ref 37)])) (h' := (107, I, J, mm_rf 19 sp rr w nw)) 1 rfl ?_
      obtain ⟨o2330, eo2330, e⟩ := mm_bind e
      refine mm_T.call (t := 85) (as := [(.ref 37), (.int x1)]) (f' := (19, [some (.ref 1), some (.int x1)], [])) rfl (tX6_landingBits (d + 0) n x1 I J 19 sp rr w nw (Or.inr rfl) o2330 eo2330) (fun v h hq => ?_)
      obtain ⟨rfl, rfl⟩ := hq
      refine mm_T.seg (f' := (23, [some (.ref 1), some (.int x1)], [(.int o2330)])) (h' := (107, I, J, mm_rf 19 sp rr w nw)) 1 rfl ?_
      cases e
      exact mm_T.ret rfl ⟨rfl, rfl⟩
set_option maxRecDepth 100000 in
set_option maxHeartbeats 4000000 in
theorem tX11_drift (d n : Nat) (x1 : Int32) (I : Nat → Nat → Int32) (J : Nat → Nat → Int64) (rv sp rr w nw : Nat) (hrv : rv = 3 ∨ rv = 19) (out : Int32) (e : fX11_drift n x1 I rv = some out) : mm_T none (d + 4) 176 (mm_ent 176 [(.ref 1), (.int x1)]) (107, I, J, mm_rf rv sp rr w nw) (fun v h => v = some (.int out) ∧ h = (107, I, J, mm_rf rv sp rr w nw)) := by
  rcases hrv with rfl | rfl
  · unfold fX11_drift at e
    refine mm_T.seg (f' := (4, [some (.ref 1), some (.int x1)], [(.ref 18)])) (h' := (107, I, J, mm_rf 3 sp rr w nw)) 2 rfl ?_
    refine mm_T.seg (f' := (5, [some (.ref 1), some (.int x1)], [(.int x1), (.ref 18)])) (h' := (107, I, J, mm_rf 3 sp rr w nw)) 1 rfl ?_
    obtain ⟨g452, hg452⟩ : ∃ z, fX7_isBoard x1 I 3 = z := ⟨_, rfl⟩
    try rw [hg452] at e
    refine mm_T.call (t := 101) (as := [(.ref 18), (.int x1)]) (f' := (8, [some (.ref 1), some (.int x1)], [])) rfl (tX7_isBoard (d + 3) x1 I J 3 sp rr w nw (Or.inl rfl) g452 hg452) (fun v h hq => ?_)
    obtain ⟨rfl, rfl⟩ := hq
    refine mm_T.br (c := g452 = 0) (a := ((22, [some (.ref 1), some (.int x1)], []), (107, I, J, mm_rf 3 sp rr w nw))) (b := ((11, [some (.ref 1), some (.int x1)], []), (107, I, J, mm_rf 3 sp rr w nw))) rfl (fun h2331 => ?_) (fun h2331 => ?_)
    · rw [if_pos h2331] at e
      refine mm_T.seg (f' := (23, [some (.ref 1), some (.int x1)], [(.int (-1))])) (h' := (107, I, J, mm_rf 3 sp rr w nw)) 1 rfl ?_
      cases e
      exact mm_T.ret rfl ⟨rfl, rfl⟩
    · rw [if_neg h2331] at e
      refine mm_T.seg (f' := (15, [some (.ref 1), some (.int x1)], [(.ref 37)])) (h' := (107, I, J, mm_rf 3 sp rr w nw)) 2 rfl ?_
      refine mm_T.seg (f' := (16, [some (.ref 1), some (.int x1)], [(.int x1), (.ref 37)])) (h' := (107, I, J, mm_rf 3 sp rr w nw)) 1 rfl ?_
      obtain ⟨o2332, eo2332, e⟩ := mm_bind e
      refine mm_T.call (t := 86) (as := [(.ref 37), (.int x1)]) (f' := (19, [some (.ref 1), some (.int x1)], [])) rfl (tX6_unsteered (d + 0) n x1 I J 3 sp rr w nw (Or.inl rfl) o2332 eo2332) (fun v h hq => ?_)
      obtain ⟨rfl, rfl⟩ := hq
      refine mm_T.seg (f' := (23, [some (.ref 1), some (.int x1)], [(.int o2332)])) (h' := (107, I, J, mm_rf 3 sp rr w nw)) 1 rfl ?_
      cases e
      exact mm_T.ret rfl ⟨rfl, rfl⟩
  · unfold fX11_drift at e
    refine mm_T.seg (f' := (4, [some (.ref 1), some (.int x1)], [(.ref 18)])) (h' := (107, I, J, mm_rf 19 sp rr w nw)) 2 rfl ?_
    refine mm_T.seg (f' := (5, [some (.ref 1), some (.int x1)], [(.int x1), (.ref 18)])) (h' := (107, I, J, mm_rf 19 sp rr w nw)) 1 rfl ?_
    obtain ⟨g452, hg452⟩ : ∃ z, fX7_isBoard x1 I 19 = z := ⟨_, rfl⟩
    try rw [hg452] at e
    refine mm_T.call (t := 101) (as := [(.ref 18), (.int x1)]) (f' := (8, [some (.ref 1), some (.int x1)], [])) rfl (tX7_isBoard (d + 3) x1 I J 19 sp rr w nw (Or.inr rfl) g452 hg452) (fun v h hq => ?_)
    obtain ⟨rfl, rfl⟩ := hq
    refine mm_T.br (c := g452 = 0) (a := ((22, [some (.ref 1), some (.int x1)], []), (107, I, J, mm_rf 19 sp rr w nw))) (b := ((11, [some (.ref 1), some (.int x1)], []), (107, I, J, mm_rf 19 sp rr w nw))) rfl (fun h2331 => ?_) (fun h2331 => ?_)
    · rw [if_pos h2331] at e
      refine mm_T.seg (f' := (23, [some (.ref 1), some (.int x1)], [(.int (-1))])) (h' := (107, I, J, mm_rf 19 sp rr w nw)) 1 rfl ?_
      cases e
      exact mm_T.ret rfl ⟨rfl, rfl⟩
    · rw [if_neg h2331] at e
      refine mm_T.seg (f' := (15, [some (.ref 1), some (.int x1)], [(.ref 37)])) (h' := (107, I, J, mm_rf 19 sp rr w nw)) 2 rfl ?_
      refine mm_T.seg (f' := (16, [some (.ref 1), some (.int x1)], [(.int x1), (.ref 37)])) (h' := (107, I, J, mm_rf 19 sp rr w nw)) 1 rfl ?_
      obtain ⟨o2332, eo2332, e⟩ := mm_bind e
      refine mm_T.call (t := 86) (as := [(.ref 37), (.int x1)]) (f' := (19, [some (.ref 1), some (.int x1)], [])) rfl (tX6_unsteered (d + 0) n x1 I J 19 sp rr w nw (Or.inr rfl) o2332 eo2332) (fun v h hq => ?_)
      obtain ⟨rfl, rfl⟩ := hq
      refine mm_T.seg (f' := (23, [some (.ref 1), some (.int x1)], [(.int o2332)])) (h' := (107, I, J, mm_rf 19 sp rr w nw)) 1 rfl ?_
      cases e
      exact mm_T.ret rfl ⟨rfl, rfl⟩
set_option maxRecDepth 100000 in
set_option maxHeartbeats 4000000 in
theorem tX11_rows (d n : Nat) (x1 : Int32) (I : Nat → Nat → Int32) (J : Nat → Nat → Int64) (rv sp rr w nw : Nat) (hrv : rv = 3 ∨ rv = 19) (out : Int32 × (Nat → Nat → Int32)) (e : fX11_rows n x1 I rv = some out) : mm_T none (d + 4) 177 (mm_ent 177 [(.ref 1), (.int x1)]) (107, I, J, mm_rf rv sp rr w nw) (fun v h => v = some (.int out.1) ∧ h = (107, out.2, J, mm_rf rv sp rr w nw)) := by
  rcases hrv with rfl | rfl
  · unfold fX11_rows at e
    refine mm_T.seg (f' := (4, [some (.ref 1), some (.int x1)], [(.ref 18)])) (h' := (107, I, J, mm_rf 3 sp rr w nw)) 2 rfl ?_
    refine mm_T.seg (f' := (5, [some (.ref 1), some (.int x1)], [(.int x1), (.ref 18)])) (h' := (107, I, J, mm_rf 3 sp rr w nw)) 1 rfl ?_
    obtain ⟨g453, hg453⟩ : ∃ z, fX7_isBoard x1 I 3 = z := ⟨_, rfl⟩
    try rw [hg453] at e
    refine mm_T.call (t := 101) (as := [(.ref 18), (.int x1)]) (f' := (8, [some (.ref 1), some (.int x1)], [])) rfl (tX7_isBoard (d + 3) x1 I J 3 sp rr w nw (Or.inl rfl) g453 hg453) (fun v h hq => ?_)
    obtain ⟨rfl, rfl⟩ := hq
    refine mm_T.br (c := g453 = 0) (a := ((22, [some (.ref 1), some (.int x1)], []), (107, I, J, mm_rf 3 sp rr w nw))) (b := ((11, [some (.ref 1), some (.int x1)], []), (107, I, J, mm_rf 3 sp rr w nw))) rfl (fun h2333 => ?_) (fun h2333 => ?_)
    · rw [if_pos h2333] at e
      refine mm_T.seg (f' := (23, [some (.ref 1), some (.int x1)], [(.int (-1))])) (h' := (107, I, J, mm_rf 3 sp rr w nw)) 1 rfl ?_
      cases e
      exact mm_T.ret rfl ⟨rfl, rfl⟩
    · rw [if_neg h2333] at e
      refine mm_T.seg (f' := (15, [some (.ref 1), some (.int x1)], [(.ref 37)])) (h' := (107, I, J, mm_rf 3 sp rr w nw)) 2 rfl ?_
      refine mm_T.seg (f' := (16, [some (.ref 1), some (.int x1)], [(.int x1), (.ref 37)])) (h' := (107, I, J, mm_rf 3 sp rr w nw)) 1 rfl ?_
      obtain ⟨o2334, eo2334, e⟩ := mm_bind e
      refine mm_T.call (t := 88) (as := [(.ref 37), (.int x1)]) (f' := (19, [some (.ref 1), some (.int x1)], [])) rfl (tX6_countRows (d + 0) n x1 I J 3 sp rr w nw (Or.inl rfl) o2334 eo2334) (fun v h hq => ?_)
      obtain ⟨rfl, rfl⟩ := hq
      refine mm_T.seg (f' := (23, [some (.ref 1), some (.int x1)], [(.int o2334.1)])) (h' := (107, o2334.2, J, mm_rf 3 sp rr w nw)) 1 rfl ?_
      cases e
      exact mm_T.ret rfl ⟨rfl, rfl⟩
  · unfold fX11_rows at e
    refine mm_T.seg (f' := (4, [some (.ref 1), some (.int x1)], [(.ref 18)])) (h' := (107, I, J, mm_rf 19 sp rr w nw)) 2 rfl ?_
    refine mm_T.seg (f' := (5, [some (.ref 1), some (.int x1)], [(.int x1), (.ref 18)])) (h' := (107, I, J, mm_rf 19 sp rr w nw)) 1 rfl ?_
    obtain ⟨g453, hg453⟩ : ∃ z, fX7_isBoard x1 I 19 = z := ⟨_, rfl⟩
    try rw [hg453] at e
    refine mm_T.call (t := 101) (as := [(.ref 18), (.int x1)]) (f' := (8, [some (.ref 1), some (.int x1)], [])) rfl (tX7_isBoard (d + 3) x1 I J 19 sp rr w nw (Or.inr rfl) g453 hg453) (fun v h hq => ?_)
    obtain ⟨rfl, rfl⟩ := hq
    refine mm_T.br (c := g453 = 0) (a := ((22, [some (.ref 1), some (.int x1)], []), (107, I, J, mm_rf 19 sp rr w nw))) (b := ((11, [some (.ref 1), some (.int x1)], []), (107, I, J, mm_rf 19 sp rr w nw))) rfl (fun h2333 => ?_) (fun h2333 => ?_)
    · rw [if_pos h2333] at e
      refine mm_T.seg (f' := (23, [some (.ref 1), some (.int x1)], [(.int (-1))])) (h' := (107, I, J, mm_rf 19 sp rr w nw)) 1 rfl ?_
      cases e
      exact mm_T.ret rfl ⟨rfl, rfl⟩
    · rw [if_neg h2333] at e
      refine mm_T.seg (f' := (15, [some (.ref 1), some (.int x1)], [(.ref 37)])) (h' := (107, I, J, mm_rf 19 sp rr w nw)) 2 rfl ?_
      refine mm_T.seg (f' := (16, [some (.ref 1), some (.int x1)], [(.int x1), (.ref 37)])) (h' := (107, I, J, mm_rf 19 sp rr w nw)) 1 rfl ?_
      obtain ⟨o2334, eo2334, e⟩ := mm_bind e
      refine mm_T.call (t := 88) (as := [(.ref 37), (.int x1)]) (f' := (19, [some (.ref 1), some (.int x1)], [])) rfl (tX6_countRows (d + 0) n x1 I J 19 sp rr w nw (Or.inr rfl) o2334 eo2334) (fun v h hq => ?_)
      obtain ⟨rfl, rfl⟩ := hq
      refine mm_T.seg (f' := (23, [some (.ref 1), some (.int x1)], [(.int o2334.1)])) (h' := (107, o2334.2, J, mm_rf 19 sp rr w nw)) 1 rfl ?_
      cases e
      exact mm_T.ret rfl ⟨rfl, rfl⟩
set_option maxRecDepth 100000 in
set_option maxHeartbeats 4000000 in
theorem tlX3_addAll_44_L2 (d : Nat) (Q : Option Value → mm_H → Prop) : ∀ (n : Nat) (y2 : Int32) (y3 : Int32) (I : Nat → Nat → Int32) (J : Nat → Nat → Int64) (rv sp rr w nw : Nat), ∀ (out : (Nat → Nat → Int32)), fX3_addAll_44_L2 n y2 y3 I = some out → mm_T none (d + 1) 25 (26, [none, none, none, none], []) (107, out, J, mm_rf rv sp rr w nw) Q → mm_T none (d + 1) 25 (2, [some (.ref 35), some (.ref 44), some (.int y2), some (.int y3)], []) (107, I, J, mm_rf rv sp rr w nw) Q := by
  intro n
  induction n with
  | zero =>
    intro y2 y3 I J rv sp rr w nw out e k
    rw [fX3_addAll_44_L2] at e; cases e
  | succ n ih =>
    intro y2 y3 I J rv sp rr w nw out e k
    rw [fX3_addAll_44_L2] at e
    refine mm_T.seg (f' := (4, [some (.ref 35), some (.ref 44), some (.int y2), some (.int y3)], [(.int y2), (.int y3)])) (h' := (107, I, J, mm_rf rv sp rr w nw)) 2 rfl ?_
    refine mm_T.br (c := y3 < y2) (a := ((7, [some (.ref 35), some (.ref 44), some (.int y2), some (.int y3)], []), (107, I, J, mm_rf rv sp rr w nw))) (b := ((26, [some (.ref 35), some (.ref 44), some (.int y2), some (.int y3)], []), (107, I, J, mm_rf rv sp rr w nw))) rfl (fun h2340 => ?_) (fun h2340 => ?_)
    · rw [if_pos h2340] at e
      refine mm_T.seg (f' := (10, [some (.ref 35), some (.ref 44), some (.int y2), some (.int y3)], [(.int 6), (.int y3)])) (h' := (107, I, J, mm_rf rv sp rr w nw)) 3 rfl ?_
      refine mm_T.br (c := y3 < 6) (a := ((13, [some (.ref 35), some (.ref 44), some (.int y2), some (.int y3)], []), (107, I, J, mm_rf rv sp rr w nw))) (b := ((26, [some (.ref 35), some (.ref 44), some (.int y2), some (.int y3)], []), (107, I, J, mm_rf rv sp rr w nw))) rfl (fun h2341 => ?_) (fun h2341 => ?_)
      · rw [if_pos h2341] at e
        refine mm_T.seg (f' := (16, [some (.ref 35), some (.ref 44), some (.int y2), some (.int y3)], [(.int y3), (.ref 44), (.ref 35)])) (h' := (107, I, J, mm_rf rv sp rr w nw)) 3 rfl ?_
        by_cases h2342 : y3 < 0 ∨ 6 ≤ y3.toNatClampNeg
        · rw [if_pos h2342] at e; cases e
        rw [if_neg h2342] at e
        refine mm_T.guard (y := ((17, [some (.ref 35), some (.ref 44), some (.int y2), some (.int y3)], [(.int (I 44 y3.toNatClampNeg)), (.ref 35)]), (107, I, J, mm_rf rv sp rr w nw))) rfl h2342 ?_
        obtain ⟨o2343, eo2343, e⟩ := mm_bind e
        refine mm_T.call (t := 24) (as := [(.ref 35), (.int (I 44 y3.toNatClampNeg))]) (f' := (20, [some (.ref 35), some (.ref 44), some (.int y2), some (.int y3)], [])) rfl (tX3_add (d + 0) (I 44 y3.toNatClampNeg) I J rv sp rr w nw o2343 eo2343) (fun v h hq => ?_)
        obtain ⟨rfl, rfl⟩ := hq
        refine mm_T.seg (f' := (2, [some (.ref 35), some (.ref 44), some (.int y2), some (.int (y3 + 1))], [])) (h' := (107, o2343, J, mm_rf rv sp rr w nw)) 2 rfl ?_
        refine mm_T.mask [true, true, true, true] ?_
        exact ih y2 (y3 + 1) o2343 J rv sp rr w nw out e k
      · rw [if_neg h2341] at e
        cases e
        refine mm_T.mask [false, false, false, false] ?_
        exact k
    · rw [if_neg h2340] at e
      cases e
      refine mm_T.mask [false, false, false, false] ?_
      exact k
set_option maxRecDepth 100000 in
set_option maxHeartbeats 4000000 in
theorem tX3_addAll_44 (d n : Nat) (x2 : Int32) (I : Nat → Nat → Int32) (J : Nat → Nat → Int64) (rv sp rr w nw : Nat) (out : (Nat → Nat → Int32)) (e : fX3_addAll_44 n x2 I = some out) : mm_T none (d + 1) 25 (mm_ent 25 [(.ref 35), (.ref 44), (.int x2)]) (107, I, J, mm_rf rv sp rr w nw) (fun v h => v = none ∧ h = (107, out, J, mm_rf rv sp rr w nw)) := by
  unfold fX3_addAll_44 at e
  refine mm_T.seg (f' := (2, [some (.ref 35), some (.ref 44), some (.int x2), some (.int 0)], [])) (h' := (107, I, J, mm_rf rv sp rr w nw)) 2 rfl ?_
  refine mm_T.mask [true, true, true, true] ?_
  obtain ⟨o2344, eo2344, e⟩ := mm_bind e
  refine tlX3_addAll_44_L2 d _ n x2 0 I J rv sp rr w nw o2344 eo2344 ?_
  cases e
  exact mm_T.ret rfl ⟨rfl, rfl⟩
set_option maxRecDepth 100000 in
set_option maxHeartbeats 4000000 in
theorem tbX11_coolest_J38 (d : Nat) (I : Nat → Nat → Int32) (J : Nat → Nat → Int64) (rv sp rr w nw : Nat) (out : Int32 × (Nat → Nat → Int32)) (e : fX11_coolest_J38 I = some out) : mm_T none (d + 34) 178 (38, [none, none, none], []) (107, I, J, mm_rf rv sp rr w nw) (fun v h => v = some (.int out.1) ∧ h = (107, out.2, J, mm_rf rv sp rr w nw)) := by
  unfold fX11_coolest_J38 at e
  refine mm_T.seg (f' := (39, [none, none, none], [(.int (-1))])) (h' := (107, I, J, mm_rf rv sp rr w nw)) 1 rfl ?_
  cases e
  exact mm_T.ret rfl ⟨rfl, rfl⟩
set_option maxRecDepth 100000 in
set_option maxHeartbeats 4000000 in
theorem tX11_coolest (d n : Nat) (x1 : Int32) (x2 : Int32) (I : Nat → Nat → Int32) (J : Nat → Nat → Int64) (rv sp rr w nw : Nat) (hrv : rv = 3 ∨ rv = 19) (out : Int32 × (Nat → Nat → Int32)) (e : fX11_coolest n x1 x2 I rv = some out) : mm_T none (d + 34) 178 (mm_ent 178 [(.ref 1), (.int x1), (.int x2)]) (107, I, J, mm_rf rv sp rr w nw) (fun v h => v = some (.int out.1) ∧ h = (107, out.2, J, mm_rf rv sp rr w nw)) := by
  rcases hrv with rfl | rfl
  · unfold fX11_coolest at e
    refine mm_T.seg (f' := (4, [some (.ref 1), some (.int x1), some (.int x2)], [(.ref 35)])) (h' := (107, I, J, mm_rf 3 sp rr w nw)) 2 rfl ?_
    obtain ⟨g454, hg454⟩ : ∃ z, fX3_clear I = z := ⟨_, rfl⟩
    try rw [hg454] at e
    refine mm_T.call (t := 23) (as := [(.ref 35)]) (f' := (7, [some (.ref 1), some (.int x1), some (.int x2)], [])) rfl (tX3_clear (d + 33) I J 3 sp rr w nw g454 hg454) (fun v h hq => ?_)
    obtain ⟨rfl, rfl⟩ := hq
    refine mm_T.seg (f' := (8, [some (.ref 1), some (.int x1), some (.int x2)], [(.int x2)])) (h' := (107, g454, J, mm_rf 3 sp rr w nw)) 1 rfl ?_
    refine mm_T.br (c := x2 < 0) (a := ((38, [some (.ref 1), some (.int x1), some (.int x2)], []), (107, g454, J, mm_rf 3 sp rr w nw))) (b := ((11, [some (.ref 1), some (.int x1), some (.int x2)], []), (107, g454, J, mm_rf 3 sp rr w nw))) rfl (fun h2335 => ?_) (fun h2335 => ?_)
    · rw [if_pos h2335] at e
      refine mm_T.mask [false, false, false] ?_
      exact tbX11_coolest_J38 d g454 J 3 sp rr w nw out e
    · rw [if_neg h2335] at e
      refine mm_T.seg (f' := (13, [some (.ref 1), some (.int x1), some (.int x2)], [(.int 2), (.int x2)])) (h' := (107, g454, J, mm_rf 3 sp rr w nw)) 2 rfl ?_
      refine mm_T.br (c := 2 < x2) (a := ((38, [some (.ref 1), some (.int x1), some (.int x2)], []), (107, g454, J, mm_rf 3 sp rr w nw))) (b := ((16, [some (.ref 1), some (.int x1), some (.int x2)], []), (107, g454, J, mm_rf 3 sp rr w nw))) rfl (fun h2336 => ?_) (fun h2336 => ?_)
      · rw [if_pos h2336] at e
        refine mm_T.mask [false, false, false] ?_
        exact tbX11_coolest_J38 d g454 J 3 sp rr w nw out e
      · rw [if_neg h2336] at e
        refine mm_T.seg (f' := (20, [some (.ref 1), some (.int x1), some (.int x2)], [(.ref 18)])) (h' := (107, g454, J, mm_rf 3 sp rr w nw)) 2 rfl ?_
        refine mm_T.seg (f' := (21, [some (.ref 1), some (.int x1), some (.int x2)], [(.int x1), (.ref 18)])) (h' := (107, g454, J, mm_rf 3 sp rr w nw)) 1 rfl ?_
        obtain ⟨g455, hg455⟩ : ∃ z, fX7_isBoard x1 g454 3 = z := ⟨_, rfl⟩
        try rw [hg455] at e
        refine mm_T.call (t := 101) (as := [(.ref 18), (.int x1)]) (f' := (24, [some (.ref 1), some (.int x1), some (.int x2)], [])) rfl (tX7_isBoard (d + 33) x1 g454 J 3 sp rr w nw (Or.inl rfl) g455 hg455) (fun v h hq => ?_)
        obtain ⟨rfl, rfl⟩ := hq
        refine mm_T.br (c := g455 = 0) (a := ((38, [some (.ref 1), some (.int x1), some (.int x2)], []), (107, g454, J, mm_rf 3 sp rr w nw))) (b := ((27, [some (.ref 1), some (.int x1), some (.int x2)], []), (107, g454, J, mm_rf 3 sp rr w nw))) rfl (fun h2337 => ?_) (fun h2337 => ?_)
        · rw [if_pos h2337] at e
          refine mm_T.mask [false, false, false] ?_
          exact tbX11_coolest_J38 d g454 J 3 sp rr w nw out e
        · rw [if_neg h2337] at e
          refine mm_T.seg (f' := (31, [some (.ref 1), some (.int x1), some (.int x2)], [(.ref 42)])) (h' := (107, g454, J, mm_rf 3 sp rr w nw)) 2 rfl ?_
          refine mm_T.seg (f' := (32, [some (.ref 1), some (.int x1), some (.int x2)], [(.int x1), (.ref 42)])) (h' := (107, g454, J, mm_rf 3 sp rr w nw)) 1 rfl ?_
          obtain ⟨o2338, eo2338, e⟩ := mm_bind e
          refine mm_T.call (t := 126) (as := [(.ref 42), (.int x1)]) (f' := (35, [some (.ref 1), some (.int x1), some (.int x2)], [])) rfl (tX8_findCoolest (d + 0) n x1 g454 J 3 sp rr w nw (Or.inl rfl) o2338 eo2338) (fun v h hq => ?_)
          obtain ⟨rfl, rfl⟩ := hq
          refine mm_T.br (c := o2338.1 = 0) (a := ((38, [some (.ref 1), some (.int x1), some (.int x2)], []), (107, o2338.2, J, mm_rf 3 sp rr w nw))) (b := ((40, [some (.ref 1), some (.int x1), some (.int x2)], []), (107, o2338.2, J, mm_rf 3 sp rr w nw))) rfl (fun h2339 => ?_) (fun h2339 => ?_)
          · rw [if_pos h2339] at e
            refine mm_T.mask [false, false, false] ?_
            exact tbX11_coolest_J38 d o2338.2 J 3 sp rr w nw out e
          · rw [if_neg h2339] at e
            refine mm_T.seg (f' := (44, [some (.ref 1), some (.int x1), some (.int x2)], [(.ref 35)])) (h' := (107, o2338.2, J, mm_rf 3 sp rr w nw)) 2 rfl ?_
            refine mm_T.seg (f' := (48, [some (.ref 1), some (.int x1), some (.int x2)], [(.ref 42), (.ref 35)])) (h' := (107, o2338.2, J, mm_rf 3 sp rr w nw)) 2 rfl ?_
            refine mm_T.seg (f' := (55, [some (.ref 1), some (.int x1), some (.int x2)], [(.ref 18), (.ref 44), (.ref 35)])) (h' := (107, o2338.2, J, mm_rf 3 sp rr w nw)) 3 rfl ?_
            refine mm_T.seg (f' := (56, [some (.ref 1), some (.int x1), some (.int x2)], [(.int x1), (.ref 18), (.ref 44), (.ref 35)])) (h' := (107, o2338.2, J, mm_rf 3 sp rr w nw)) 1 rfl ?_
            obtain ⟨g456, hg456⟩ : ∃ z, fX7_strokesLeft x1 o2338.2 3 = z := ⟨_, rfl⟩
            try rw [hg456] at e
            refine mm_T.call (t := 111) (as := [(.ref 18), (.int x1)]) (f' := (59, [some (.ref 1), some (.int x1), some (.int x2)], [(.ref 44), (.ref 35)])) rfl (tX7_strokesLeft (d + 30) x1 o2338.2 J 3 sp rr w nw (Or.inl rfl) g456 hg456) (fun v h hq => ?_)
            obtain ⟨rfl, rfl⟩ := hq
            obtain ⟨o2345, eo2345, e⟩ := mm_bind e
            refine mm_T.call (t := 25) (as := [(.ref 35), (.ref 44), (.int g456)]) (f' := (62, [some (.ref 1), some (.int x1), some (.int x2)], [])) rfl (tX3_addAll_44 (d + 32) n g456 o2338.2 J 3 sp rr w nw o2345 eo2345) (fun v h hq => ?_)
            obtain ⟨rfl, rfl⟩ := hq
            refine mm_T.seg (f' := (63, [some (.ref 1), some (.int x1), some (.int x2)], [(.int x2)])) (h' := (107, o2345, J, mm_rf 3 sp rr w nw)) 1 rfl ?_
            by_cases h2346 : x2 = 0
            · rw [if_pos h2346] at e
              refine mm_T.step (f' := (88, [some (.ref 1), some (.int x1), some (.int x2)], [])) (h' := (107, o2345, J, mm_rf 3 sp rr w nw)) (by first | (rw [h2346]; rfl) | exact absurd h2346 (by decide)) ?_
              refine mm_T.seg (f' := (92, [some (.ref 1), some (.int x1), some (.int x2)], [(.ref 42)])) (h' := (107, o2345, J, mm_rf 3 sp rr w nw)) 2 rfl ?_
              refine mm_T.seg (f' := (95, [some (.ref 1), some (.int x1), some (.int x2)], [(.int (o2345 42 6))])) (h' := (107, o2345, J, mm_rf 3 sp rr w nw)) 1 rfl ?_
              cases e
              exact mm_T.ret rfl ⟨rfl, rfl⟩
            · rw [if_neg h2346] at e
              by_cases h2347 : x2 = 1
              · rw [if_pos h2347] at e
                refine mm_T.step (f' := (96, [some (.ref 1), some (.int x1), some (.int x2)], [])) (h' := (107, o2345, J, mm_rf 3 sp rr w nw)) (by first | (rw [h2347]; rfl) | exact absurd h2347 (by decide)) ?_
                refine mm_T.seg (f' := (100, [some (.ref 1), some (.int x1), some (.int x2)], [(.ref 42)])) (h' := (107, o2345, J, mm_rf 3 sp rr w nw)) 2 rfl ?_
                refine mm_T.seg (f' := (103, [some (.ref 1), some (.int x1), some (.int x2)], [(.int (o2345 42 7))])) (h' := (107, o2345, J, mm_rf 3 sp rr w nw)) 1 rfl ?_
                cases e
                exact mm_T.ret rfl ⟨rfl, rfl⟩
              · rw [if_neg h2347] at e
                refine mm_T.step (f' := (104, [some (.ref 1), some (.int x1), some (.int x2)], [])) (h' := (107, o2345, J, mm_rf 3 sp rr w nw)) (by show mm_go (mm_tg 63 (Op.lookupswitch.offset [(0, 25), (1, 33)] 41 x2.toInt)) _ _ _ = _; rw [lv_osw (a := 0) h2346 (by decide), lv_osw (a := 1) h2347 (by decide)]; rfl) ?_
                refine mm_T.seg (f' := (108, [some (.ref 1), some (.int x1), some (.int x2)], [(.ref 42)])) (h' := (107, o2345, J, mm_rf 3 sp rr w nw)) 2 rfl ?_
                refine mm_T.seg (f' := (111, [some (.ref 1), some (.int x1), some (.int x2)], [(.int (o2345 42 8))])) (h' := (107, o2345, J, mm_rf 3 sp rr w nw)) 1 rfl ?_
                cases e
                exact mm_T.ret rfl ⟨rfl, rfl⟩
  · unfold fX11_coolest at e
    refine mm_T.seg (f' := (4, [some (.ref 1), some (.int x1), some (.int x2)], [(.ref 35)])) (h' := (107, I, J, mm_rf 19 sp rr w nw)) 2 rfl ?_
    obtain ⟨g454, hg454⟩ : ∃ z, fX3_clear I = z := ⟨_, rfl⟩
    try rw [hg454] at e
    refine mm_T.call (t := 23) (as := [(.ref 35)]) (f' := (7, [some (.ref 1), some (.int x1), some (.int x2)], [])) rfl (tX3_clear (d + 33) I J 19 sp rr w nw g454 hg454) (fun v h hq => ?_)
    obtain ⟨rfl, rfl⟩ := hq
    refine mm_T.seg (f' := (8, [some (.ref 1), some (.int x1), some (.int x2)], [(.int x2)])) (h' := (107, g454, J, mm_rf 19 sp rr w nw)) 1 rfl ?_
    refine mm_T.br (c := x2 < 0) (a := ((38, [some (.ref 1), some (.int x1), some (.int x2)], []), (107, g454, J, mm_rf 19 sp rr w nw))) (b := ((11, [some (.ref 1), some (.int x1), some (.int x2)], []), (107, g454, J, mm_rf 19 sp rr w nw))) rfl (fun h2335 => ?_) (fun h2335 => ?_)
    · rw [if_pos h2335] at e
      refine mm_T.mask [false, false, false] ?_
      exact tbX11_coolest_J38 d g454 J 19 sp rr w nw out e
    · rw [if_neg h2335] at e
      refine mm_T.seg (f' := (13, [some (.ref 1), some (.int x1), some (.int x2)], [(.int 2), (.int x2)])) (h' := (107, g454, J, mm_rf 19 sp rr w nw)) 2 rfl ?_
      refine mm_T.br (c := 2 < x2) (a := ((38, [some (.ref 1), some (.int x1), some (.int x2)], []), (107, g454, J, mm_rf 19 sp rr w nw))) (b := ((16, [some (.ref 1), some (.int x1), some (.int x2)], []), (107, g454, J, mm_rf 19 sp rr w nw))) rfl (fun h2336 => ?_) (fun h2336 => ?_)
      · rw [if_pos h2336] at e
        refine mm_T.mask [false, false, false] ?_
        exact tbX11_coolest_J38 d g454 J 19 sp rr w nw out e
      · rw [if_neg h2336] at e
        refine mm_T.seg (f' := (20, [some (.ref 1), some (.int x1), some (.int x2)], [(.ref 18)])) (h' := (107, g454, J, mm_rf 19 sp rr w nw)) 2 rfl ?_
        refine mm_T.seg (f' := (21, [some (.ref 1), some (.int x1), some (.int x2)], [(.int x1), (.ref 18)])) (h' := (107, g454, J, mm_rf 19 sp rr w nw)) 1 rfl ?_
        obtain ⟨g455, hg455⟩ : ∃ z, fX7_isBoard x1 g454 19 = z := ⟨_, rfl⟩
        try rw [hg455] at e
        refine mm_T.call (t := 101) (as := [(.ref 18), (.int x1)]) (f' := (24, [some (.ref 1), some (.int x1), some (.int x2)], [])) rfl (tX7_isBoard (d + 33) x1 g454 J 19 sp rr w nw (Or.inr rfl) g455 hg455) (fun v h hq => ?_)
        obtain ⟨rfl, rfl⟩ := hq
        refine mm_T.br (c := g455 = 0) (a := ((38, [some (.ref 1), some (.int x1), some (.int x2)], []), (107, g454, J, mm_rf 19 sp rr w nw))) (b := ((27, [some (.ref 1), some (.int x1), some (.int x2)], []), (107, g454, J, mm_rf 19 sp rr w nw))) rfl (fun h2337 => ?_) (fun h2337 => ?_)
        · rw [if_pos h2337] at e
          refine mm_T.mask [false, false, false] ?_
          exact tbX11_coolest_J38 d g454 J 19 sp rr w nw out e
        · rw [if_neg h2337] at e
          refine mm_T.seg (f' := (31, [some (.ref 1), some (.int x1), some (.int x2)], [(.ref 42)])) (h' := (107, g454, J, mm_rf 19 sp rr w nw)) 2 rfl ?_
          refine mm_T.seg (f' := (32, [some (.ref 1), some (.int x1), some (.int x2)], [(.int x1), (.ref 42)])) (h' := (107, g454, J, mm_rf 19 sp rr w nw)) 1 rfl ?_
          obtain ⟨o2338, eo2338, e⟩ := mm_bind e
          refine mm_T.call (t := 126) (as := [(.ref 42), (.int x1)]) (f' := (35, [some (.ref 1), some (.int x1), some (.int x2)], [])) rfl (tX8_findCoolest (d + 0) n x1 g454 J 19 sp rr w nw (Or.inr rfl) o2338 eo2338) (fun v h hq => ?_)
          obtain ⟨rfl, rfl⟩ := hq
          refine mm_T.br (c := o2338.1 = 0) (a := ((38, [some (.ref 1), some (.int x1), some (.int x2)], []), (107, o2338.2, J, mm_rf 19 sp rr w nw))) (b := ((40, [some (.ref 1), some (.int x1), some (.int x2)], []), (107, o2338.2, J, mm_rf 19 sp rr w nw))) rfl (fun h2339 => ?_) (fun h2339 => ?_)
          · rw [if_pos h2339] at e
            refine mm_T.mask [false, false, false] ?_
            exact tbX11_coolest_J38 d o2338.2 J 19 sp rr w nw out e
          · rw [if_neg h2339] at e
            refine mm_T.seg (f' := (44, [some (.ref 1), some (.int x1), some (.int x2)], [(.ref 35)])) (h' := (107, o2338.2, J, mm_rf 19 sp rr w nw)) 2 rfl ?_
            refine mm_T.seg (f' := (48, [some (.ref 1), some (.int x1), some (.int x2)], [(.ref 42), (.ref 35)])) (h' := (107, o2338.2, J, mm_rf 19 sp rr w nw)) 2 rfl ?_
            refine mm_T.seg (f' := (55, [some (.ref 1), some (.int x1), some (.int x2)], [(.ref 18), (.ref 44), (.ref 35)])) (h' := (107, o2338.2, J, mm_rf 19 sp rr w nw)) 3 rfl ?_
            refine mm_T.seg (f' := (56, [some (.ref 1), some (.int x1), some (.int x2)], [(.int x1), (.ref 18), (.ref 44), (.ref 35)])) (h' := (107, o2338.2, J, mm_rf 19 sp rr w nw)) 1 rfl ?_
            obtain ⟨g456, hg456⟩ : ∃ z, fX7_strokesLeft x1 o2338.2 19 = z := ⟨_, rfl⟩
            try rw [hg456] at e
            refine mm_T.call (t := 111) (as := [(.ref 18), (.int x1)]) (f' := (59, [some (.ref 1), some (.int x1), some (.int x2)], [(.ref 44), (.ref 35)])) rfl (tX7_strokesLeft (d + 30) x1 o2338.2 J 19 sp rr w nw (Or.inr rfl) g456 hg456) (fun v h hq => ?_)
            obtain ⟨rfl, rfl⟩ := hq
            obtain ⟨o2345, eo2345, e⟩ := mm_bind e
            refine mm_T.call (t := 25) (as := [(.ref 35), (.ref 44), (.int g456)]) (f' := (62, [some (.ref 1), some (.int x1), some (.int x2)], [])) rfl (tX3_addAll_44 (d + 32) n g456 o2338.2 J 19 sp rr w nw o2345 eo2345) (fun v h hq => ?_)
            obtain ⟨rfl, rfl⟩ := hq
            refine mm_T.seg (f' := (63, [some (.ref 1), some (.int x1), some (.int x2)], [(.int x2)])) (h' := (107, o2345, J, mm_rf 19 sp rr w nw)) 1 rfl ?_
            by_cases h2346 : x2 = 0
            · rw [if_pos h2346] at e
              refine mm_T.step (f' := (88, [some (.ref 1), some (.int x1), some (.int x2)], [])) (h' := (107, o2345, J, mm_rf 19 sp rr w nw)) (by first | (rw [h2346]; rfl) | exact absurd h2346 (by decide)) ?_
              refine mm_T.seg (f' := (92, [some (.ref 1), some (.int x1), some (.int x2)], [(.ref 42)])) (h' := (107, o2345, J, mm_rf 19 sp rr w nw)) 2 rfl ?_
              refine mm_T.seg (f' := (95, [some (.ref 1), some (.int x1), some (.int x2)], [(.int (o2345 42 6))])) (h' := (107, o2345, J, mm_rf 19 sp rr w nw)) 1 rfl ?_
              cases e
              exact mm_T.ret rfl ⟨rfl, rfl⟩
            · rw [if_neg h2346] at e
              by_cases h2347 : x2 = 1
              · rw [if_pos h2347] at e
                refine mm_T.step (f' := (96, [some (.ref 1), some (.int x1), some (.int x2)], [])) (h' := (107, o2345, J, mm_rf 19 sp rr w nw)) (by first | (rw [h2347]; rfl) | exact absurd h2347 (by decide)) ?_
                refine mm_T.seg (f' := (100, [some (.ref 1), some (.int x1), some (.int x2)], [(.ref 42)])) (h' := (107, o2345, J, mm_rf 19 sp rr w nw)) 2 rfl ?_
                refine mm_T.seg (f' := (103, [some (.ref 1), some (.int x1), some (.int x2)], [(.int (o2345 42 7))])) (h' := (107, o2345, J, mm_rf 19 sp rr w nw)) 1 rfl ?_
                cases e
                exact mm_T.ret rfl ⟨rfl, rfl⟩
              · rw [if_neg h2347] at e
                refine mm_T.step (f' := (104, [some (.ref 1), some (.int x1), some (.int x2)], [])) (h' := (107, o2345, J, mm_rf 19 sp rr w nw)) (by show mm_go (mm_tg 63 (Op.lookupswitch.offset [(0, 25), (1, 33)] 41 x2.toInt)) _ _ _ = _; rw [lv_osw (a := 0) h2346 (by decide), lv_osw (a := 1) h2347 (by decide)]; rfl) ?_
                refine mm_T.seg (f' := (108, [some (.ref 1), some (.int x1), some (.int x2)], [(.ref 42)])) (h' := (107, o2345, J, mm_rf 19 sp rr w nw)) 2 rfl ?_
                refine mm_T.seg (f' := (111, [some (.ref 1), some (.int x1), some (.int x2)], [(.int (o2345 42 8))])) (h' := (107, o2345, J, mm_rf 19 sp rr w nw)) 1 rfl ?_
                cases e
                exact mm_T.ret rfl ⟨rfl, rfl⟩
set_option maxRecDepth 100000 in
set_option maxHeartbeats 4000000 in
theorem tlX3_addAll_41_L2 (d : Nat) (Q : Option Value → mm_H → Prop) : ∀ (n : Nat) (y2 : Int32) (y3 : Int32) (I : Nat → Nat → Int32) (J : Nat → Nat → Int64) (rv sp rr w nw : Nat), ∀ (out : (Nat → Nat → Int32)), fX3_addAll_41_L2 n y2 y3 I = some out → mm_T none (d + 1) 25 (26, [none, none, none, none], []) (107, out, J, mm_rf rv sp rr w nw) Q → mm_T none (d + 1) 25 (2, [some (.ref 35), some (.ref 41), some (.int y2), some (.int y3)], []) (107, I, J, mm_rf rv sp rr w nw) Q := by
  intro n
  induction n with
  | zero =>
    intro y2 y3 I J rv sp rr w nw out e k
    rw [fX3_addAll_41_L2] at e; cases e
  | succ n ih =>
    intro y2 y3 I J rv sp rr w nw out e k
    rw [fX3_addAll_41_L2] at e
    refine mm_T.seg (f' := (4, [some (.ref 35), some (.ref 41), some (.int y2), some (.int y3)], [(.int y2), (.int y3)])) (h' := (107, I, J, mm_rf rv sp rr w nw)) 2 rfl ?_
    refine mm_T.br (c := y3 < y2) (a := ((7, [some (.ref 35), some (.ref 41), some (.int y2), some (.int y3)], []), (107, I, J, mm_rf rv sp rr w nw))) (b := ((26, [some (.ref 35), some (.ref 41), some (.int y2), some (.int y3)], []), (107, I, J, mm_rf rv sp rr w nw))) rfl (fun h2353 => ?_) (fun h2353 => ?_)
    · rw [if_pos h2353] at e
      refine mm_T.seg (f' := (10, [some (.ref 35), some (.ref 41), some (.int y2), some (.int y3)], [(.int 6), (.int y3)])) (h' := (107, I, J, mm_rf rv sp rr w nw)) 3 rfl ?_
      refine mm_T.br (c := y3 < 6) (a := ((13, [some (.ref 35), some (.ref 41), some (.int y2), some (.int y3)], []), (107, I, J, mm_rf rv sp rr w nw))) (b := ((26, [some (.ref 35), some (.ref 41), some (.int y2), some (.int y3)], []), (107, I, J, mm_rf rv sp rr w nw))) rfl (fun h2354 => ?_) (fun h2354 => ?_)
      · rw [if_pos h2354] at e
        refine mm_T.seg (f' := (16, [some (.ref 35), some (.ref 41), some (.int y2), some (.int y3)], [(.int y3), (.ref 41), (.ref 35)])) (h' := (107, I, J, mm_rf rv sp rr w nw)) 3 rfl ?_
        by_cases h2355 : y3 < 0 ∨ 6 ≤ y3.toNatClampNeg
        · rw [if_pos h2355] at e; cases e
        rw [if_neg h2355] at e
        refine mm_T.guard (y := ((17, [some (.ref 35), some (.ref 41), some (.int y2), some (.int y3)], [(.int (I 41 y3.toNatClampNeg)), (.ref 35)]), (107, I, J, mm_rf rv sp rr w nw))) rfl h2355 ?_
        obtain ⟨o2356, eo2356, e⟩ := mm_bind e
        refine mm_T.call (t := 24) (as := [(.ref 35), (.int (I 41 y3.toNatClampNeg))]) (f' := (20, [some (.ref 35), some (.ref 41), some (.int y2), some (.int y3)], [])) rfl (tX3_add (d + 0) (I 41 y3.toNatClampNeg) I J rv sp rr w nw o2356 eo2356) (fun v h hq => ?_)
        obtain ⟨rfl, rfl⟩ := hq
        refine mm_T.seg (f' := (2, [some (.ref 35), some (.ref 41), some (.int y2), some (.int (y3 + 1))], [])) (h' := (107, o2356, J, mm_rf rv sp rr w nw)) 2 rfl ?_
        refine mm_T.mask [true, true, true, true] ?_
        exact ih y2 (y3 + 1) o2356 J rv sp rr w nw out e k
      · rw [if_neg h2354] at e
        cases e
        refine mm_T.mask [false, false, false, false] ?_
        exact k
    · rw [if_neg h2353] at e
      cases e
      refine mm_T.mask [false, false, false, false] ?_
      exact k
set_option maxRecDepth 100000 in
set_option maxHeartbeats 4000000 in
theorem tX3_addAll_41 (d n : Nat) (x2 : Int32) (I : Nat → Nat → Int32) (J : Nat → Nat → Int64) (rv sp rr w nw : Nat) (out : (Nat → Nat → Int32)) (e : fX3_addAll_41 n x2 I = some out) : mm_T none (d + 1) 25 (mm_ent 25 [(.ref 35), (.ref 41), (.int x2)]) (107, I, J, mm_rf rv sp rr w nw) (fun v h => v = none ∧ h = (107, out, J, mm_rf rv sp rr w nw)) := by
  unfold fX3_addAll_41 at e
  refine mm_T.seg (f' := (2, [some (.ref 35), some (.ref 41), some (.int x2), some (.int 0)], [])) (h' := (107, I, J, mm_rf rv sp rr w nw)) 2 rfl ?_
  refine mm_T.mask [true, true, true, true] ?_
  obtain ⟨o2357, eo2357, e⟩ := mm_bind e
  refine tlX3_addAll_41_L2 d _ n x2 0 I J rv sp rr w nw o2357 eo2357 ?_
  cases e
  exact mm_T.ret rfl ⟨rfl, rfl⟩
set_option maxRecDepth 100000 in
set_option maxHeartbeats 4000000 in
theorem tbX11_straight_J36 (d : Nat) (I : Nat → Nat → Int32) (J : Nat → Nat → Int64) (rv sp rr w nw : Nat) (out : Int32 × (Nat → Nat → Int32)) (e : fX11_straight_J36 I = some out) : mm_T none (d + 5) 179 (36, [none, none, none, none], []) (107, I, J, mm_rf rv sp rr w nw) (fun v h => v = some (.int out.1) ∧ h = (107, out.2, J, mm_rf rv sp rr w nw)) := by
  unfold fX11_straight_J36 at e
  refine mm_T.seg (f' := (37, [none, none, none, none], [(.int (-1))])) (h' := (107, I, J, mm_rf rv sp rr w nw)) 1 rfl ?_
  cases e
  exact mm_T.ret rfl ⟨rfl, rfl⟩
set_option maxRecDepth 100000 in
set_option maxHeartbeats 4000000 in
theorem tX11_straight (d n : Nat) (x1 : Int32) (x2 : Int32) (I : Nat → Nat → Int32) (J : Nat → Nat → Int64) (rv sp rr w nw : Nat) (hrv : rv = 3 ∨ rv = 19) (out : Int32 × (Nat → Nat → Int32)) (e : fX11_straight n x1 x2 I rv = some out) : mm_T none (d + 5) 179 (mm_ent 179 [(.ref 1), (.int x1), (.int x2)]) (107, I, J, mm_rf rv sp rr w nw) (fun v h => v = some (.int out.1) ∧ h = (107, out.2, J, mm_rf rv sp rr w nw)) := by
  rcases hrv with rfl | rfl
  · unfold fX11_straight at e
    refine mm_T.seg (f' := (4, [some (.ref 1), some (.int x1), some (.int x2), none], [(.ref 35)])) (h' := (107, I, J, mm_rf 3 sp rr w nw)) 2 rfl ?_
    obtain ⟨g457, hg457⟩ : ∃ z, fX3_clear I = z := ⟨_, rfl⟩
    try rw [hg457] at e
    refine mm_T.call (t := 23) (as := [(.ref 35)]) (f' := (7, [some (.ref 1), some (.int x1), some (.int x2), none], [])) rfl (tX3_clear (d + 4) I J 3 sp rr w nw g457 hg457) (fun v h hq => ?_)
    obtain ⟨rfl, rfl⟩ := hq
    refine mm_T.seg (f' := (11, [some (.ref 1), some (.int x1), some (.int x2), none], [(.ref 18)])) (h' := (107, g457, J, mm_rf 3 sp rr w nw)) 2 rfl ?_
    refine mm_T.seg (f' := (12, [some (.ref 1), some (.int x1), some (.int x2), none], [(.int x1), (.ref 18)])) (h' := (107, g457, J, mm_rf 3 sp rr w nw)) 1 rfl ?_
    obtain ⟨g458, hg458⟩ : ∃ z, fX7_isBoard x1 g457 3 = z := ⟨_, rfl⟩
    try rw [hg458] at e
    refine mm_T.call (t := 101) (as := [(.ref 18), (.int x1)]) (f' := (15, [some (.ref 1), some (.int x1), some (.int x2), none], [])) rfl (tX7_isBoard (d + 4) x1 g457 J 3 sp rr w nw (Or.inl rfl) g458 hg458) (fun v h hq => ?_)
    obtain ⟨rfl, rfl⟩ := hq
    refine mm_T.br (c := g458 = 0) (a := ((36, [some (.ref 1), some (.int x1), some (.int x2), none], []), (107, g457, J, mm_rf 3 sp rr w nw))) (b := ((18, [some (.ref 1), some (.int x1), some (.int x2), none], []), (107, g457, J, mm_rf 3 sp rr w nw))) rfl (fun h2348 => ?_) (fun h2348 => ?_)
    · rw [if_pos h2348] at e
      refine mm_T.mask [false, false, false, false] ?_
      exact tbX11_straight_J36 d g457 J 3 sp rr w nw out e
    · rw [if_neg h2348] at e
      refine mm_T.seg (f' := (19, [some (.ref 1), some (.int x1), some (.int x2), none], [(.int x2)])) (h' := (107, g457, J, mm_rf 3 sp rr w nw)) 1 rfl ?_
      refine mm_T.br (c := x2 < 0) (a := ((36, [some (.ref 1), some (.int x1), some (.int x2), none], []), (107, g457, J, mm_rf 3 sp rr w nw))) (b := ((22, [some (.ref 1), some (.int x1), some (.int x2), none], []), (107, g457, J, mm_rf 3 sp rr w nw))) rfl (fun h2349 => ?_) (fun h2349 => ?_)
      · rw [if_pos h2349] at e
        refine mm_T.mask [false, false, false, false] ?_
        exact tbX11_straight_J36 d g457 J 3 sp rr w nw out e
      · rw [if_neg h2349] at e
        refine mm_T.seg (f' := (27, [some (.ref 1), some (.int x1), some (.int x2), none], [(.ref 18), (.int x2)])) (h' := (107, g457, J, mm_rf 3 sp rr w nw)) 3 rfl ?_
        refine mm_T.seg (f' := (33, [some (.ref 1), some (.int x1), some (.int x2), none], [(.int (g457 3 0)), (.int x2)])) (h' := (107, g457, J, mm_rf 3 sp rr w nw)) 2 rfl ?_
        refine mm_T.br (c := x2 < (g457 3 0)) (a := ((38, [some (.ref 1), some (.int x1), some (.int x2), none], []), (107, g457, J, mm_rf 3 sp rr w nw))) (b := ((36, [some (.ref 1), some (.int x1), some (.int x2), none], []), (107, g457, J, mm_rf 3 sp rr w nw))) rfl (fun h2350 => ?_) (fun h2350 => ?_)
        · rw [if_pos h2350] at e
          refine mm_T.seg (f' := (42, [some (.ref 1), some (.int x1), some (.int x2), none], [(.ref 37)])) (h' := (107, g457, J, mm_rf 3 sp rr w nw)) 2 rfl ?_
          refine mm_T.seg (f' := (44, [some (.ref 1), some (.int x1), some (.int x2), none], [(.int x2), (.int x1), (.ref 37)])) (h' := (107, g457, J, mm_rf 3 sp rr w nw)) 2 rfl ?_
          obtain ⟨o2351, eo2351, e⟩ := mm_bind e
          refine mm_T.call (t := 90) (as := [(.ref 37), (.int x1), (.int x2)]) (f' := (47, [some (.ref 1), some (.int x1), some (.int x2), none], [])) rfl (tX6_findStraightest (d + 0) n x1 x2 g457 J 3 sp rr w nw (Or.inl rfl) o2351 eo2351) (fun v h hq => ?_)
          obtain ⟨rfl, rfl⟩ := hq
          refine mm_T.seg (f' := (50, [some (.ref 1), some (.int x1), some (.int x2), some (.int o2351.1)], [(.int (-1)), (.int o2351.1)])) (h' := (107, o2351.2, J, mm_rf 3 sp rr w nw)) 3 rfl ?_
          refine mm_T.br (c := o2351.1 = (-1)) (a := ((75, [some (.ref 1), some (.int x1), some (.int x2), some (.int o2351.1)], []), (107, o2351.2, J, mm_rf 3 sp rr w nw))) (b := ((53, [some (.ref 1), some (.int x1), some (.int x2), some (.int o2351.1)], []), (107, o2351.2, J, mm_rf 3 sp rr w nw))) rfl (fun h2352 => ?_) (fun h2352 => ?_)
          · rw [if_pos h2352] at e
            refine mm_T.seg (f' := (76, [some (.ref 1), some (.int x1), some (.int x2), some (.int o2351.1)], [(.int o2351.1)])) (h' := (107, o2351.2, J, mm_rf 3 sp rr w nw)) 1 rfl ?_
            cases e
            exact mm_T.ret rfl ⟨rfl, rfl⟩
          · rw [if_neg h2352] at e
            refine mm_T.seg (f' := (57, [some (.ref 1), some (.int x1), some (.int x2), some (.int o2351.1)], [(.ref 35)])) (h' := (107, o2351.2, J, mm_rf 3 sp rr w nw)) 2 rfl ?_
            refine mm_T.seg (f' := (61, [some (.ref 1), some (.int x1), some (.int x2), some (.int o2351.1)], [(.ref 37), (.ref 35)])) (h' := (107, o2351.2, J, mm_rf 3 sp rr w nw)) 2 rfl ?_
            refine mm_T.seg (f' := (68, [some (.ref 1), some (.int x1), some (.int x2), some (.int o2351.1)], [(.ref 18), (.ref 41), (.ref 35)])) (h' := (107, o2351.2, J, mm_rf 3 sp rr w nw)) 3 rfl ?_
            refine mm_T.seg (f' := (69, [some (.ref 1), some (.int x1), some (.int x2), some (.int o2351.1)], [(.int x1), (.ref 18), (.ref 41), (.ref 35)])) (h' := (107, o2351.2, J, mm_rf 3 sp rr w nw)) 1 rfl ?_
            obtain ⟨g459, hg459⟩ : ∃ z, fX7_strokesLeft x1 o2351.2 3 = z := ⟨_, rfl⟩
            try rw [hg459] at e
            refine mm_T.call (t := 111) (as := [(.ref 18), (.int x1)]) (f' := (72, [some (.ref 1), some (.int x1), some (.int x2), some (.int o2351.1)], [(.ref 41), (.ref 35)])) rfl (tX7_strokesLeft (d + 1) x1 o2351.2 J 3 sp rr w nw (Or.inl rfl) g459 hg459) (fun v h hq => ?_)
            obtain ⟨rfl, rfl⟩ := hq
            obtain ⟨o2358, eo2358, e⟩ := mm_bind e
            refine mm_T.call (t := 25) (as := [(.ref 35), (.ref 41), (.int g459)]) (f' := (75, [some (.ref 1), some (.int x1), some (.int x2), some (.int o2351.1)], [])) rfl (tX3_addAll_41 (d + 3) n g459 o2351.2 J 3 sp rr w nw o2358 eo2358) (fun v h hq => ?_)
            obtain ⟨rfl, rfl⟩ := hq
            refine mm_T.seg (f' := (76, [some (.ref 1), some (.int x1), some (.int x2), some (.int o2351.1)], [(.int o2351.1)])) (h' := (107, o2358, J, mm_rf 3 sp rr w nw)) 1 rfl ?_
            cases e
            exact mm_T.ret rfl ⟨rfl, rfl⟩
        · rw [if_neg h2350] at e
          refine mm_T.mask [false, false, false, false] ?_
          exact tbX11_straight_J36 d g457 J 3 sp rr w nw out e
  · unfold fX11_straight at e
    refine mm_T.seg (f' := (4, [some (.ref 1), some (.int x1), some (.int x2), none], [(.ref 35)])) (h' := (107, I, J, mm_rf 19 sp rr w nw)) 2 rfl ?_
    obtain ⟨g457, hg457⟩ : ∃ z, fX3_clear I = z := ⟨_, rfl⟩
    try rw [hg457] at e
    refine mm_T.call (t := 23) (as := [(.ref 35)]) (f' := (7, [some (.ref 1), some (.int x1), some (.int x2), none], [])) rfl (tX3_clear (d + 4) I J 19 sp rr w nw g457 hg457) (fun v h hq => ?_)
    obtain ⟨rfl, rfl⟩ := hq
    refine mm_T.seg (f' := (11, [some (.ref 1), some (.int x1), some (.int x2), none], [(.ref 18)])) (h' := (107, g457, J, mm_rf 19 sp rr w nw)) 2 rfl ?_
    refine mm_T.seg (f' := (12, [some (.ref 1), some (.int x1), some (.int x2), none], [(.int x1), (.ref 18)])) (h' := (107, g457, J, mm_rf 19 sp rr w nw)) 1 rfl ?_
    obtain ⟨g458, hg458⟩ : ∃ z, fX7_isBoard x1 g457 19 = z := ⟨_, rfl⟩
    try rw [hg458] at e
    refine mm_T.call (t := 101) (as := [(.ref 18), (.int x1)]) (f' := (15, [some (.ref 1), some (.int x1), some (.int x2), none], [])) rfl (tX7_isBoard (d + 4) x1 g457 J 19 sp rr w nw (Or.inr rfl) g458 hg458) (fun v h hq => ?_)
    obtain ⟨rfl, rfl⟩ := hq
    refine mm_T.br (c := g458 = 0) (a := ((36, [some (.ref 1), some (.int x1), some (.int x2), none], []), (107, g457, J, mm_rf 19 sp rr w nw))) (b := ((18, [some (.ref 1), some (.int x1), some (.int x2), none], []), (107, g457, J, mm_rf 19 sp rr w nw))) rfl (fun h2348 => ?_) (fun h2348 => ?_)
    · rw [if_pos h2348] at e
      refine mm_T.mask [false, false, false, false] ?_
      exact tbX11_straight_J36 d g457 J 19 sp rr w nw out e
    · rw [if_neg h2348] at e
      refine mm_T.seg (f' := (19, [some (.ref 1), some (.int x1), some (.int x2), none], [(.int x2)])) (h' := (107, g457, J, mm_rf 19 sp rr w nw)) 1 rfl ?_
      refine mm_T.br (c := x2 < 0) (a := ((36, [some (.ref 1), some (.int x1), some (.int x2), none], []), (107, g457, J, mm_rf 19 sp rr w nw))) (b := ((22, [some (.ref 1), some (.int x1), some (.int x2), none], []), (107, g457, J, mm_rf 19 sp rr w nw))) rfl (fun h2349 => ?_) (fun h2349 => ?_)
      · rw [if_pos h2349] at e
        refine mm_T.mask [false, false, false, false] ?_
        exact tbX11_straight_J36 d g457 J 19 sp rr w nw out e
      · rw [if_neg h2349] at e
        refine mm_T.seg (f' := (27, [some (.ref 1), some (.int x1), some (.int x2), none], [(.ref 18), (.int x2)])) (h' := (107, g457, J, mm_rf 19 sp rr w nw)) 3 rfl ?_
        refine mm_T.seg (f' := (33, [some (.ref 1), some (.int x1), some (.int x2), none], [(.int (g457 19 0)), (.int x2)])) (h' := (107, g457, J, mm_rf 19 sp rr w nw)) 2 rfl ?_
        refine mm_T.br (c := x2 < (g457 19 0)) (a := ((38, [some (.ref 1), some (.int x1), some (.int x2), none], []), (107, g457, J, mm_rf 19 sp rr w nw))) (b := ((36, [some (.ref 1), some (.int x1), some (.int x2), none], []), (107, g457, J, mm_rf 19 sp rr w nw))) rfl (fun h2350 => ?_) (fun h2350 => ?_)
        · rw [if_pos h2350] at e
          refine mm_T.seg (f' := (42, [some (.ref 1), some (.int x1), some (.int x2), none], [(.ref 37)])) (h' := (107, g457, J, mm_rf 19 sp rr w nw)) 2 rfl ?_
          refine mm_T.seg (f' := (44, [some (.ref 1), some (.int x1), some (.int x2), none], [(.int x2), (.int x1), (.ref 37)])) (h' := (107, g457, J, mm_rf 19 sp rr w nw)) 2 rfl ?_
          obtain ⟨o2351, eo2351, e⟩ := mm_bind e
          refine mm_T.call (t := 90) (as := [(.ref 37), (.int x1), (.int x2)]) (f' := (47, [some (.ref 1), some (.int x1), some (.int x2), none], [])) rfl (tX6_findStraightest (d + 0) n x1 x2 g457 J 19 sp rr w nw (Or.inr rfl) o2351 eo2351) (fun v h hq => ?_)
          obtain ⟨rfl, rfl⟩ := hq
          refine mm_T.seg (f' := (50, [some (.ref 1), some (.int x1), some (.int x2), some (.int o2351.1)], [(.int (-1)), (.int o2351.1)])) (h' := (107, o2351.2, J, mm_rf 19 sp rr w nw)) 3 rfl ?_
          refine mm_T.br (c := o2351.1 = (-1)) (a := ((75, [some (.ref 1), some (.int x1), some (.int x2), some (.int o2351.1)], []), (107, o2351.2, J, mm_rf 19 sp rr w nw))) (b := ((53, [some (.ref 1), some (.int x1), some (.int x2), some (.int o2351.1)], []), (107, o2351.2, J, mm_rf 19 sp rr w nw))) rfl (fun h2352 => ?_) (fun h2352 => ?_)
          · rw [if_pos h2352] at e
            refine mm_T.seg (f' := (76, [some (.ref 1), some (.int x1), some (.int x2), some (.int o2351.1)], [(.int o2351.1)])) (h' := (107, o2351.2, J, mm_rf 19 sp rr w nw)) 1 rfl ?_
            cases e
            exact mm_T.ret rfl ⟨rfl, rfl⟩
          · rw [if_neg h2352] at e
            refine mm_T.seg (f' := (57, [some (.ref 1), some (.int x1), some (.int x2), some (.int o2351.1)], [(.ref 35)])) (h' := (107, o2351.2, J, mm_rf 19 sp rr w nw)) 2 rfl ?_
            refine mm_T.seg (f' := (61, [some (.ref 1), some (.int x1), some (.int x2), some (.int o2351.1)], [(.ref 37), (.ref 35)])) (h' := (107, o2351.2, J, mm_rf 19 sp rr w nw)) 2 rfl ?_
            refine mm_T.seg (f' := (68, [some (.ref 1), some (.int x1), some (.int x2), some (.int o2351.1)], [(.ref 18), (.ref 41), (.ref 35)])) (h' := (107, o2351.2, J, mm_rf 19 sp rr w nw)) 3 rfl ?_
            refine mm_T.seg (f' := (69, [some (.ref 1), some (.int x1), some (.int x2), some (.int o2351.1)], [(.int x1), (.ref 18), (.ref 41), (.ref 35)])) (h' := (107, o2351.2, J, mm_rf 19 sp rr w nw)) 1 rfl ?_
            obtain ⟨g459, hg459⟩ : ∃ z, fX7_strokesLeft x1 o2351.2 19 = z := ⟨_, rfl⟩
            try rw [hg459] at e
            refine mm_T.call (t := 111) (as := [(.ref 18), (.int x1)]) (f' := (72, [some (.ref 1), some (.int x1), some (.int x2), some (.int o2351.1)], [(.ref 41), (.ref 35)])) rfl (tX7_strokesLeft (d + 1) x1 o2351.2 J 19 sp rr w nw (Or.inr rfl) g459 hg459) (fun v h hq => ?_)
            obtain ⟨rfl, rfl⟩ := hq
            obtain ⟨o2358, eo2358, e⟩ := mm_bind e
            refine mm_T.call (t := 25) (as := [(.ref 35), (.ref 41), (.int g459)]) (f' := (75, [some (.ref 1), some (.int x1), some (.int x2), some (.int o2351.1)], [])) rfl (tX3_addAll_41 (d + 3) n g459 o2351.2 J 19 sp rr w nw o2358 eo2358) (fun v h hq => ?_)
            obtain ⟨rfl, rfl⟩ := hq
            refine mm_T.seg (f' := (76, [some (.ref 1), some (.int x1), some (.int x2), some (.int o2351.1)], [(.int o2351.1)])) (h' := (107, o2358, J, mm_rf 19 sp rr w nw)) 1 rfl ?_
            cases e
            exact mm_T.ret rfl ⟨rfl, rfl⟩
        · rw [if_neg h2350] at e
          refine mm_T.mask [false, false, false, false] ?_
          exact tbX11_straight_J36 d g457 J 19 sp rr w nw out e
set_option maxRecDepth 100000 in
set_option maxHeartbeats 4000000 in
theorem tX11_widest (d n : Nat) (x1 : Int32) (x2 : Int32) (I : Nat → Nat → Int32) (J : Nat → Nat → Int64) (rv sp rr w nw : Nat) (hrv : rv = 3 ∨ rv = 19) (out : Int32) (e : fX11_widest n x1 x2 I rv = some out) : mm_T none (d + 5) 180 (mm_ent 180 [(.ref 1), (.int x1), (.int x2)]) (107, I, J, mm_rf rv sp rr w nw) (fun v h => v = some (.int out) ∧ h = (107, I, J, mm_rf rv sp rr w nw)) := by
  rcases hrv with rfl | rfl
  · unfold fX11_widest at e
    refine mm_T.seg (f' := (1, [some (.ref 1), some (.int x1), some (.int x2), none], [(.int x2)])) (h' := (107, I, J, mm_rf 3 sp rr w nw)) 1 rfl ?_
    refine mm_T.br (c := x2 < 0) (a := ((31, [some (.ref 1), some (.int x1), some (.int x2), none], []), (107, I, J, mm_rf 3 sp rr w nw))) (b := ((4, [some (.ref 1), some (.int x1), some (.int x2), none], []), (107, I, J, mm_rf 3 sp rr w nw))) rfl (fun h2359 => ?_) (fun h2359 => ?_)
    · rw [if_pos h2359] at e
      refine mm_T.seg (f' := (32, [some (.ref 1), some (.int x1), some (.int x2), none], [(.int (-1))])) (h' := (107, I, J, mm_rf 3 sp rr w nw)) 1 rfl ?_
      cases e
      exact mm_T.ret rfl ⟨rfl, rfl⟩
    · rw [if_neg h2359] at e
      refine mm_T.seg (f' := (6, [some (.ref 1), some (.int x1), some (.int x2), none], [(.int 1), (.int x2)])) (h' := (107, I, J, mm_rf 3 sp rr w nw)) 2 rfl ?_
      refine mm_T.br (c := 1 < x2) (a := ((31, [some (.ref 1), some (.int x1), some (.int x2), none], []), (107, I, J, mm_rf 3 sp rr w nw))) (b := ((9, [some (.ref 1), some (.int x1), some (.int x2), none], []), (107, I, J, mm_rf 3 sp rr w nw))) rfl (fun h2360 => ?_) (fun h2360 => ?_)
      · rw [if_pos h2360] at e
        refine mm_T.seg (f' := (32, [some (.ref 1), some (.int x1), some (.int x2), none], [(.int (-1))])) (h' := (107, I, J, mm_rf 3 sp rr w nw)) 1 rfl ?_
        cases e
        exact mm_T.ret rfl ⟨rfl, rfl⟩
      · rw [if_neg h2360] at e
        refine mm_T.seg (f' := (13, [some (.ref 1), some (.int x1), some (.int x2), none], [(.ref 18)])) (h' := (107, I, J, mm_rf 3 sp rr w nw)) 2 rfl ?_
        refine mm_T.seg (f' := (14, [some (.ref 1), some (.int x1), some (.int x2), none], [(.int x1), (.ref 18)])) (h' := (107, I, J, mm_rf 3 sp rr w nw)) 1 rfl ?_
        obtain ⟨g460, hg460⟩ : ∃ z, fX7_isBoard x1 I 3 = z := ⟨_, rfl⟩
        try rw [hg460] at e
        refine mm_T.call (t := 101) (as := [(.ref 18), (.int x1)]) (f' := (17, [some (.ref 1), some (.int x1), some (.int x2), none], [])) rfl (tX7_isBoard (d + 4) x1 I J 3 sp rr w nw (Or.inl rfl) g460 hg460) (fun v h hq => ?_)
        obtain ⟨rfl, rfl⟩ := hq
        refine mm_T.br (c := g460 = 0) (a := ((31, [some (.ref 1), some (.int x1), some (.int x2), none], []), (107, I, J, mm_rf 3 sp rr w nw))) (b := ((20, [some (.ref 1), some (.int x1), some (.int x2), none], []), (107, I, J, mm_rf 3 sp rr w nw))) rfl (fun h2361 => ?_) (fun h2361 => ?_)
        · rw [if_pos h2361] at e
          refine mm_T.seg (f' := (32, [some (.ref 1), some (.int x1), some (.int x2), none], [(.int (-1))])) (h' := (107, I, J, mm_rf 3 sp rr w nw)) 1 rfl ?_
          cases e
          exact mm_T.ret rfl ⟨rfl, rfl⟩
        · rw [if_neg h2361] at e
          refine mm_T.seg (f' := (24, [some (.ref 1), some (.int x1), some (.int x2), none], [(.ref 18)])) (h' := (107, I, J, mm_rf 3 sp rr w nw)) 2 rfl ?_
          refine mm_T.seg (f' := (25, [some (.ref 1), some (.int x1), some (.int x2), none], [(.int x1), (.ref 18)])) (h' := (107, I, J, mm_rf 3 sp rr w nw)) 1 rfl ?_
          obtain ⟨g461, hg461⟩ : ∃ z, fX7_isAtBank x1 I 3 = z := ⟨_, rfl⟩
          try rw [hg461] at e
          refine mm_T.call (t := 119) (as := [(.ref 18), (.int x1)]) (f' := (28, [some (.ref 1), some (.int x1), some (.int x2), none], [])) rfl (tX7_isAtBank (d + 1) x1 I J 3 sp rr w nw (Or.inl rfl) g461 hg461) (fun v h hq => ?_)
          obtain ⟨rfl, rfl⟩ := hq
          refine mm_T.br (c := g461 = 0) (a := ((31, [some (.ref 1), some (.int x1), some (.int x2), none], []), (107, I, J, mm_rf 3 sp rr w nw))) (b := ((33, [some (.ref 1), some (.int x1), some (.int x2), none], []), (107, I, J, mm_rf 3 sp rr w nw))) rfl (fun h2362 => ?_) (fun h2362 => ?_)
          · rw [if_pos h2362] at e
            refine mm_T.seg (f' := (32, [some (.ref 1), some (.int x1), some (.int x2), none], [(.int (-1))])) (h' := (107, I, J, mm_rf 3 sp rr w nw)) 1 rfl ?_
            cases e
            exact mm_T.ret rfl ⟨rfl, rfl⟩
          · rw [if_neg h2362] at e
            refine mm_T.seg (f' := (37, [some (.ref 1), some (.int x1), some (.int x2), none], [(.ref 45)])) (h' := (107, I, J, mm_rf 3 sp rr w nw)) 2 rfl ?_
            refine mm_T.seg (f' := (38, [some (.ref 1), some (.int x1), some (.int x2), none], [(.int x1), (.ref 45)])) (h' := (107, I, J, mm_rf 3 sp rr w nw)) 1 rfl ?_
            obtain ⟨o2363, eo2363, e⟩ := mm_bind e
            refine mm_T.call (t := 132) (as := [(.ref 45), (.int x1)]) (f' := (41, [some (.ref 1), some (.int x1), some (.int x2), none], [])) rfl (tX9_widestSet (d + 0) n x1 I J 3 sp rr w nw (Or.inl rfl) o2363 eo2363) (fun v h hq => ?_)
            obtain ⟨rfl, rfl⟩ := hq
            refine mm_T.seg (f' := (43, [some (.ref 1), some (.int x1), some (.int x2), some (.int o2363)], [(.int x2)])) (h' := (107, I, J, mm_rf 3 sp rr w nw)) 2 rfl ?_
            refine mm_T.br (c := x2 = 0) (a := ((46, [some (.ref 1), some (.int x1), some (.int x2), some (.int o2363)], []), (107, I, J, mm_rf 3 sp rr w nw))) (b := ((57, [some (.ref 1), some (.int x1), some (.int x2), some (.int o2363)], []), (107, I, J, mm_rf 3 sp rr w nw))) rfl (fun h2364 => ?_) (fun h2364 => ?_)
            · rw [if_pos h2364] at e
              refine mm_T.seg (f' := (50, [some (.ref 1), some (.int x1), some (.int x2), some (.int o2363)], [(.ref 45)])) (h' := (107, I, J, mm_rf 3 sp rr w nw)) 2 rfl ?_
              refine mm_T.seg (f' := (51, [some (.ref 1), some (.int x1), some (.int x2), some (.int o2363)], [(.int o2363), (.ref 45)])) (h' := (107, I, J, mm_rf 3 sp rr w nw)) 1 rfl ?_
              obtain ⟨o2365, eo2365, e⟩ := mm_bind e
              refine mm_T.call (t := 131) (as := [(.ref 45), (.int o2363)]) (f' := (54, [some (.ref 1), some (.int x1), some (.int x2), some (.int o2363)], [])) rfl (tX9_widthOf (d + 2) n o2363 I J 3 sp rr w nw (Or.inl rfl) o2365 eo2365) (fun v h hq => ?_)
              obtain ⟨rfl, rfl⟩ := hq
              refine mm_T.seg (f' := (58, [some (.ref 1), some (.int x1), some (.int x2), some (.int o2363)], [(.int o2365)])) (h' := (107, I, J, mm_rf 3 sp rr w nw)) 1 rfl ?_
              cases e
              exact mm_T.ret rfl ⟨rfl, rfl⟩
            · rw [if_neg h2364] at e
              refine mm_T.seg (f' := (58, [some (.ref 1), some (.int x1), some (.int x2), some (.int o2363)], [(.int o2363)])) (h' := (107, I, J, mm_rf 3 sp rr w nw)) 1 rfl ?_
              cases e
              exact mm_T.ret rfl ⟨rfl, rfl⟩
  · unfold fX11_widest at e
    refine mm_T.seg (f' := (1, [some (.ref 1), some (.int x1), some (.int x2), none], [(.int x2)])) (h' := (107, I, J, mm_rf 19 sp rr w nw)) 1 rfl ?_
    refine mm_T.br (c := x2 < 0) (a := ((31, [some (.ref 1), some (.int x1), some (.int x2), none], []), (107, I, J, mm_rf 19 sp rr w nw))) (b := ((4, [some (.ref 1), some (.int x1), some (.int x2), none], []), (107, I, J, mm_rf 19 sp rr w nw))) rfl (fun h2359 => ?_) (fun h2359 => ?_)
    · rw [if_pos h2359] at e
      refine mm_T.seg (f' := (32, [some (.ref 1), some (.int x1), some (.int x2), none], [(.int (-1))])) (h' := (107, I, J, mm_rf 19 sp rr w nw)) 1 rfl ?_
      cases e
      exact mm_T.ret rfl ⟨rfl, rfl⟩
    · rw [if_neg h2359] at e
      refine mm_T.seg (f' := (6, [some (.ref 1), some (.int x1), some (.int x2), none], [(.int 1), (.int x2)])) (h' := (107, I, J, mm_rf 19 sp rr w nw)) 2 rfl ?_
      refine mm_T.br (c := 1 < x2) (a := ((31, [some (.ref 1), some (.int x1), some (.int x2), none], []), (107, I, J, mm_rf 19 sp rr w nw))) (b := ((9, [some (.ref 1), some (.int x1), some (.int x2), none], []), (107, I, J, mm_rf 19 sp rr w nw))) rfl (fun h2360 => ?_) (fun h2360 => ?_)
      · rw [if_pos h2360] at e
        refine mm_T.seg (f' := (32, [some (.ref 1), some (.int x1), some (.int x2), none], [(.int (-1))])) (h' := (107, I, J, mm_rf 19 sp rr w nw)) 1 rfl ?_
        cases e
        exact mm_T.ret rfl ⟨rfl, rfl⟩
      · rw [if_neg h2360] at e
        refine mm_T.seg (f' := (13, [some (.ref 1), some (.int x1), some (.int x2), none], [(.ref 18)])) (h' := (107, I, J, mm_rf 19 sp rr w nw)) 2 rfl ?_
        refine mm_T.seg (f' := (14, [some (.ref 1), some (.int x1), some (.int x2), none], [(.int x1), (.ref 18)])) (h' := (107, I, J, mm_rf 19 sp rr w nw)) 1 rfl ?_
        obtain ⟨g460, hg460⟩ : ∃ z, fX7_isBoard x1 I 19 = z := ⟨_, rfl⟩
        try rw [hg460] at e
        refine mm_T.call (t := 101) (as := [(.ref 18), (.int x1)]) (f' := (17, [some (.ref 1), some (.int x1), some (.int x2), none], [])) rfl (tX7_isBoard (d + 4) x1 I J 19 sp rr w nw (Or.inr rfl) g460 hg460) (fun v h hq => ?_)
        obtain ⟨rfl, rfl⟩ := hq
        refine mm_T.br (c := g460 = 0) (a := ((31, [some (.ref 1), some (.int x1), some (.int x2), none], []), (107, I, J, mm_rf 19 sp rr w nw))) (b := ((20, [some (.ref 1), some (.int x1), some (.int x2), none], []), (107, I, J, mm_rf 19 sp rr w nw))) rfl (fun h2361 => ?_) (fun h2361 => ?_)
        · rw [if_pos h2361] at e
          refine mm_T.seg (f' := (32, [some (.ref 1), some (.int x1), some (.int x2), none], [(.int (-1))])) (h' := (107, I, J, mm_rf 19 sp rr w nw)) 1 rfl ?_
          cases e
          exact mm_T.ret rfl ⟨rfl, rfl⟩
        · rw [if_neg h2361] at e
          refine mm_T.seg (f' := (24, [some (.ref 1), some (.int x1), some (.int x2), none], [(.ref 18)])) (h' := (107, I, J, mm_rf 19 sp rr w nw)) 2 rfl ?_
          refine mm_T.seg (f' := (25, [some (.ref 1), some (.int x1), some (.int x2), none], [(.int x1), (.ref 18)])) (h' := (107, I, J, mm_rf 19 sp rr w nw)) 1 rfl ?_
          obtain ⟨g461, hg461⟩ : ∃ z, fX7_isAtBank x1 I 19 = z := ⟨_, rfl⟩
          try rw [hg461] at e
          refine mm_T.call (t := 119) (as := [(.ref 18), (.int x1)]) (f' := (28, [some (.ref 1), some (.int x1), some (.int x2), none], [])) rfl (tX7_isAtBank (d + 1) x1 I J 19 sp rr w nw (Or.inr rfl) g461 hg461) (fun v h hq => ?_)
          obtain ⟨rfl, rfl⟩ := hq
          refine mm_T.br (c := g461 = 0) (a := ((31, [some (.ref 1), some (.int x1), some (.int x2), none], []), (107, I, J, mm_rf 19 sp rr w nw))) (b := ((33, [some (.ref 1), some (.int x1), some (.int x2), none], []), (107, I, J, mm_rf 19 sp rr w nw))) rfl (fun h2362 => ?_) (fun h2362 => ?_)
          · rw [if_pos h2362] at e
            refine mm_T.seg (f' := (32, [some (.ref 1), some (.int x1), some (.int x2), none], [(.int (-1))])) (h' := (107, I, J, mm_rf 19 sp rr w nw)) 1 rfl ?_
            cases e
            exact mm_T.ret rfl ⟨rfl, rfl⟩
          · rw [if_neg h2362] at e
            refine mm_T.seg (f' := (37, [some (.ref 1), some (.int x1), some (.int x2), none], [(.ref 45)])) (h' := (107, I, J, mm_rf 19 sp rr w nw)) 2 rfl ?_
            refine mm_T.seg (f' := (38, [some (.ref 1), some (.int x1), some (.int x2), none], [(.int x1), (.ref 45)])) (h' := (107, I, J, mm_rf 19 sp rr w nw)) 1 rfl ?_
            obtain ⟨o2363, eo2363, e⟩ := mm_bind e
            refine mm_T.call (t := 132) (as := [(.ref 45), (.int x1)]) (f' := (41, [some (.ref 1), some (.int x1), some (.int x2), none], [])) rfl (tX9_widestSet (d + 0) n x1 I J 19 sp rr w nw (Or.inr rfl) o2363 eo2363) (fun v h hq => ?_)
            obtain ⟨rfl, rfl⟩ := hq
            refine mm_T.seg (f' := (43, [some (.ref 1), some (.int x1), some (.int x2), some (.int o2363)], [(.int x2)])) (h' := (107, I, J, mm_rf 19 sp rr w nw)) 2 rfl ?_
            refine mm_T.br (c := x2 = 0) (a := ((46, [some (.ref 1), some (.int x1), some (.int x2), some (.int o2363)], []), (107, I, J, mm_rf 19 sp rr w nw))) (b := ((57, [some (.ref 1), some (.int x1), some (.int x2), some (.int o2363)], []), (107, I, J, mm_rf 19 sp rr w nw))) rfl (fun h2364 => ?_) (fun h2364 => ?_)
            · rw [if_pos h2364] at e
              refine mm_T.seg (f' := (50, [some (.ref 1), some (.int x1), some (.int x2), some (.int o2363)], [(.ref 45)])) (h' := (107, I, J, mm_rf 19 sp rr w nw)) 2 rfl ?_
              refine mm_T.seg (f' := (51, [some (.ref 1), some (.int x1), some (.int x2), some (.int o2363)], [(.int o2363), (.ref 45)])) (h' := (107, I, J, mm_rf 19 sp rr w nw)) 1 rfl ?_
              obtain ⟨o2365, eo2365, e⟩ := mm_bind e
              refine mm_T.call (t := 131) (as := [(.ref 45), (.int o2363)]) (f' := (54, [some (.ref 1), some (.int x1), some (.int x2), some (.int o2363)], [])) rfl (tX9_widthOf (d + 2) n o2363 I J 19 sp rr w nw (Or.inr rfl) o2365 eo2365) (fun v h hq => ?_)
              obtain ⟨rfl, rfl⟩ := hq
              refine mm_T.seg (f' := (58, [some (.ref 1), some (.int x1), some (.int x2), some (.int o2363)], [(.int o2365)])) (h' := (107, I, J, mm_rf 19 sp rr w nw)) 1 rfl ?_
              cases e
              exact mm_T.ret rfl ⟨rfl, rfl⟩
            · rw [if_neg h2364] at e
              refine mm_T.seg (f' := (58, [some (.ref 1), some (.int x1), some (.int x2), some (.int o2363)], [(.int o2363)])) (h' := (107, I, J, mm_rf 19 sp rr w nw)) 1 rfl ?_
              cases e
              exact mm_T.ret rfl ⟨rfl, rfl⟩
