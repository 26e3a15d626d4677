set_option maxRecDepth 100000 in
set_option maxHeartbeats 4000000 in
theorem tlX7_begin_L15 (d : Nat) (Q : Option Value → mm_H → Prop) : ∀ (n : Nat) (y2 : Int32) (p1 : Nat) (I : Nat → Nat → Int32) (J : Nat → Nat → Int64) (rv sp rr w nw : Nat), (p1 = 3 ∨ p1 = 19) → ∀ (out : (Nat → Nat → Int32)), fX7_begin_L15 n y2 p1 I = some out → mm_T none (d + 2) 100 (40, [some (.ref 18), some (.ref p1), none], []) (107, out, J, mm_rf rv sp rr w nw) Q → mm_T none (d + 2) 100 (15, [some (.ref 18), some (.ref p1), some (.int y2)], []) (107, I, J, mm_rf rv sp rr w nw) Q := by
  intro n
  induction n with
  | zero =>
    intro y2 p1 I J rv sp rr w nw hp1 out e k
    rw [fX7_begin_L15] at e; cases e
  | succ n ih =>
    intro y2 p1 I J rv sp rr w nw hp1 out e k
    rcases hp1 with rfl | rfl
    · rw [fX7_begin_L15] at e
      refine mm_T.seg (f' := (20, [some (.ref 18), some (.ref 3), some (.int y2)], [(.int (I 3 4)), (.int y2)])) (h' := (107, I, J, mm_rf rv sp rr w nw)) 3 rfl ?_
      refine mm_T.br (c := y2 < (I 3 4)) (a := ((23, [some (.ref 18), some (.ref 3), some (.int y2)], []), (107, I, J, mm_rf rv sp rr w nw))) (b := ((40, [some (.ref 18), some (.ref 3), some (.int y2)], []), (107, I, J, mm_rf rv sp rr w nw))) rfl (fun h2276 => ?_) (fun h2276 => ?_)
      · rw [if_pos h2276] at e
        refine mm_T.seg (f' := (28, [some (.ref 18), some (.ref 3), some (.int y2)], [(.int y2), (.ref 3), (.int 0), (.int y2), (.ref 18)])) (h' := (107, I, J, mm_rf rv sp rr w nw)) 5 rfl ?_
        obtain ⟨g412, hg412⟩ : ∃ z, fX5_startOf y2 3 I = z := ⟨_, rfl⟩
        try rw [hg412] at e
        refine mm_T.call (t := 78) (as := [(.ref 3), (.int y2)]) (f' := (31, [some (.ref 18), some (.ref 3), some (.int y2)], [(.int 0), (.int y2), (.ref 18)])) rfl (tX5_startOf (d + 0) y2 3 I J rv sp rr w nw (Or.inl rfl) g412 hg412) (fun v h hq => ?_)
        obtain ⟨rfl, rfl⟩ := hq
        obtain ⟨g413, hg413⟩ : ∃ z, fX7_set y2 0 g412 I = z := ⟨_, rfl⟩
        try rw [hg413] at e
        refine mm_T.call (t := 104) (as := [(.ref 18), (.int y2), (.int 0), (.int g412)]) (f' := (34, [some (.ref 18), some (.ref 3), some (.int y2)], [])) rfl (tX7_set (d + 0) y2 0 g412 I J rv sp rr w nw g413 hg413) (fun v h hq => ?_)
        obtain ⟨rfl, rfl⟩ := hq
        refine mm_T.seg (f' := (15, [some (.ref 18), some (.ref 3), some (.int (y2 + 1))], [])) (h' := (107, g413, J, mm_rf rv sp rr w nw)) 2 rfl ?_
        refine mm_T.mask [true, true, true] ?_
        exact ih (y2 + 1) 3 g413 J rv sp rr w nw (Or.inl rfl) out e k
      · rw [if_neg h2276] at e
        cases e
        refine mm_T.mask [true, true, false] ?_
        exact k
    · rw [fX7_begin_L15] at e
      refine mm_T.seg (f' := (20, [some (.ref 18), some (.ref 19), some (.int y2)], [(.int (I 19 4)), (.int y2)])) (h' := (107, I, J, mm_rf rv sp rr w nw)) 3 rfl ?_
      refine mm_T.br (c := y2 < (I 19 4)) (a := ((23, [some (.ref 18), some (.ref 19), some (.int y2)], []), (107, I, J, mm_rf rv sp rr w nw))) (b := ((40, [some (.ref 18), some (.ref 19), some (.int y2)], []), (107, I, J, mm_rf rv sp rr w nw))) rfl (fun h2276 => ?_) (fun h2276 => ?_)
      · rw [if_pos h2276] at e
        refine mm_T.seg (f' := (28, [some (.ref 18), some (.ref 19), some (.int y2)], [(.int y2), (.ref 19), (.int 0), (.int y2), (.ref 18)])) (h' := (107, I, J, mm_rf rv sp rr w nw)) 5 rfl ?_
        obtain ⟨g412, hg412⟩ : ∃ z, fX5_startOf y2 19 I = z := ⟨_, rfl⟩
        try rw [hg412] at e
        refine mm_T.call (t := 78) (as := [(.ref 19), (.int y2)]) (f' := (31, [some (.ref 18), some (.ref 19), some (.int y2)], [(.int 0), (.int y2), (.ref 18)])) rfl (tX5_startOf (d + 0) y2 19 I J rv sp rr w nw (Or.inr rfl) g412 hg412) (fun v h hq => ?_)
        obtain ⟨rfl, rfl⟩ := hq
        obtain ⟨g413, hg413⟩ : ∃ z, fX7_set y2 0 g412 I = z := ⟨_, rfl⟩
        try rw [hg413] at e
        refine mm_T.call (t := 104) (as := [(.ref 18), (.int y2), (.int 0), (.int g412)]) (f' := (34, [some (.ref 18), some (.ref 19), some (.int y2)], [])) rfl (tX7_set (d + 0) y2 0 g412 I J rv sp rr w nw g413 hg413) (fun v h hq => ?_)
        obtain ⟨rfl, rfl⟩ := hq
        refine mm_T.seg (f' := (15, [some (.ref 18), some (.ref 19), some (.int (y2 + 1))], [])) (h' := (107, g413, J, mm_rf rv sp rr w nw)) 2 rfl ?_
        refine mm_T.mask [true, true, true] ?_
        exact ih (y2 + 1) 19 g413 J rv sp rr w nw (Or.inr rfl) out e k
      · rw [if_neg h2276] at e
        cases e
        refine mm_T.mask [true, true, false] ?_
        exact k
set_option maxRecDepth 100000 in
set_option maxHeartbeats 4000000 in
theorem tlX7_begin_L42 (d : Nat) (Q : Option Value → mm_H → Prop) : ∀ (n : Nat) (y2 : Int32) (p1 : Nat) (I : Nat → Nat → Int32) (J : Nat → Nat → Int64) (rv sp rr w nw : Nat), (p1 = 3 ∨ p1 = 19) → ∀ (out : (Nat → Nat → Int32)), fX7_begin_L42 n y2 p1 I = some out → mm_T none (d + 2) 100 (60, [some (.ref 18), some (.ref p1), none], []) (107, out, J, mm_rf rv sp rr w nw) Q → mm_T none (d + 2) 100 (42, [some (.ref 18), some (.ref p1), some (.int y2)], []) (107, I, J, mm_rf rv sp rr w nw) Q := by
  intro n
  induction n with
  | zero =>
    intro y2 p1 I J rv sp rr w nw hp1 out e k
    rw [fX7_begin_L42] at e; cases e
  | succ n ih =>
    intro y2 p1 I J rv sp rr w nw hp1 out e k
    rcases hp1 with rfl | rfl
    · rw [fX7_begin_L42] at e
      refine mm_T.seg (f' := (45, [some (.ref 18), some (.ref 3), some (.int y2)], [(.int 7), (.int y2)])) (h' := (107, I, J, mm_rf rv sp rr w nw)) 2 rfl ?_
      refine mm_T.br (c := y2 < 7) (a := ((48, [some (.ref 18), some (.ref 3), some (.int y2)], []), (107, I, J, mm_rf rv sp rr w nw))) (b := ((60, [some (.ref 18), some (.ref 3), some (.int y2)], []), (107, I, J, mm_rf rv sp rr w nw))) rfl (fun h2278 => ?_) (fun h2278 => ?_)
      · rw [if_pos h2278] at e
        refine mm_T.seg (f' := (51, [some (.ref 18), some (.ref 3), some (.int y2)], [(.int (-1)), (.int y2), (.ref 18)])) (h' := (107, I, J, mm_rf rv sp rr w nw)) 3 rfl ?_
        obtain ⟨g414, hg414⟩ : ∃ z, fX7_setPlace y2 (-1) I = z := ⟨_, rfl⟩
        try rw [hg414] at e
        refine mm_T.call (t := 113) (as := [(.ref 18), (.int y2), (.int (-1))]) (f' := (54, [some (.ref 18), some (.ref 3), some (.int y2)], [])) rfl (tX7_setPlace (d + 0) y2 (-1) I J rv sp rr w nw g414 hg414) (fun v h hq => ?_)
        obtain ⟨rfl, rfl⟩ := hq
        refine mm_T.seg (f' := (42, [some (.ref 18), some (.ref 3), some (.int (y2 + 1))], [])) (h' := (107, g414, J, mm_rf rv sp rr w nw)) 2 rfl ?_
        refine mm_T.mask [true, true, true] ?_
        exact ih (y2 + 1) 3 g414 J rv sp rr w nw (Or.inl rfl) out e k
      · rw [if_neg h2278] at e
        cases e
        refine mm_T.mask [true, true, false] ?_
        exact k
    · rw [fX7_begin_L42] at e
      refine mm_T.seg (f' := (45, [some (.ref 18), some (.ref 19), some (.int y2)], [(.int 7), (.int y2)])) (h' := (107, I, J, mm_rf rv sp rr w nw)) 2 rfl ?_
      refine mm_T.br (c := y2 < 7) (a := ((48, [some (.ref 18), some (.ref 19), some (.int y2)], []), (107, I, J, mm_rf rv sp rr w nw))) (b := ((60, [some (.ref 18), some (.ref 19), some (.int y2)], []), (107, I, J, mm_rf rv sp rr w nw))) rfl (fun h2278 => ?_) (fun h2278 => ?_)
      · rw [if_pos h2278] at e
        refine mm_T.seg (f' := (51, [some (.ref 18), some (.ref 19), some (.int y2)], [(.int (-1)), (.int y2), (.ref 18)])) (h' := (107, I, J, mm_rf rv sp rr w nw)) 3 rfl ?_
        obtain ⟨g414, hg414⟩ : ∃ z, fX7_setPlace y2 (-1) I = z := ⟨_, rfl⟩
        try rw [hg414] at e
        refine mm_T.call (t := 113) (as := [(.ref 18), (.int y2), (.int (-1))]) (f' := (54, [some (.ref 18), some (.ref 19), some (.int y2)], [])) rfl (tX7_setPlace (d + 0) y2 (-1) I J rv sp rr w nw g414 hg414) (fun v h hq => ?_)
        obtain ⟨rfl, rfl⟩ := hq
        refine mm_T.seg (f' := (42, [some (.ref 18), some (.ref 19), some (.int (y2 + 1))], [])) (h' := (107, g414, J, mm_rf rv sp rr w nw)) 2 rfl ?_
        refine mm_T.mask [true, true, true] ?_
        exact ih (y2 + 1) 19 g414 J rv sp rr w nw (Or.inr rfl) out e k
      · rw [if_neg h2278] at e
        cases e
        refine mm_T.mask [true, true, false] ?_
        exact k
set_option maxRecDepth 100000 in
set_option maxHeartbeats 4000000 in
theorem tX7_begin (d n : Nat) (p1 : Nat) (I : Nat → Nat → Int32) (J : Nat → Nat → Int64) (rv sp rr w nw : Nat) (hp1 : p1 = 3 ∨ p1 = 19) (hrv : rv = 3 ∨ rv = 19) (out : (Nat → Nat → Int32)) (e : fX7_begin n p1 I rv = some out) : mm_T none (d + 2) 100 (mm_ent 100 [(.ref 18), (.ref p1)]) (107, I, J, mm_rf rv sp rr w nw) (fun v h => v = none ∧ h = (107, out, J, mm_rf p1 sp rr w nw)) := by
  rcases hp1, hrv with ⟨rfl | rfl, rfl | rfl⟩
  · unfold fX7_begin at e
    refine mm_T.seg (f' := (2, [some (.ref 18), some (.ref 3), none], [(.ref 3), (.ref 18)])) (h' := (107, I, J, mm_rf 3 sp rr w nw)) 2 rfl ?_
    refine mm_T.step (f' := (5, [some (.ref 18), some (.ref 3), none], [])) (h' := (107, I, J, mm_up (mm_rf 3 sp rr w nw) 18 1 3)) rfl ?_
    rw [mm_rf_rv]
    refine mm_T.seg (f' := (9, [some (.ref 18), some (.ref 3), none], [(.ref 32)])) (h' := (107, I, J, mm_rf 3 sp rr w nw)) 2 rfl ?_
    refine mm_T.seg (f' := (10, [some (.ref 18), some (.ref 3), none], [(.int 0), (.ref 32)])) (h' := (107, I, J, mm_rf 3 sp rr w nw)) 1 rfl ?_
    refine mm_T.call (t := 344) (as := [(.ref 32), (.int 0)]) (f' := (13, [some (.ref 18), some (.ref 3), none], [])) rfl (t_fill _ 32 28 0 I J (mm_rf 3 sp rr w nw) rfl rfl) (fun v h hq => ?_)
    obtain ⟨rfl, rfl⟩ := hq
    refine mm_T.seg (f' := (15, [some (.ref 18), some (.ref 3), some (.int 0)], [])) (h' := (107, (mf_fill I 32 28 0), J, mm_rf 3 sp rr w nw)) 2 rfl ?_
    refine mm_T.mask [true, true, true] ?_
    obtain ⟨o2277, eo2277, e⟩ := mm_bind e
    refine tlX7_begin_L15 d _ n 0 3 (mf_fill I 32 28 0) J 3 sp rr w nw (Or.inl rfl) o2277 eo2277 ?_
    refine mm_T.seg (f' := (42, [some (.ref 18), some (.ref 3), some (.int 0)], [])) (h' := (107, o2277, J, mm_rf 3 sp rr w nw)) 2 rfl ?_
    refine mm_T.mask [true, true, true] ?_
    obtain ⟨o2279, eo2279, e⟩ := mm_bind e
    refine tlX7_begin_L42 d _ n 0 3 o2277 J 3 sp rr w nw (Or.inl rfl) o2279 eo2279 ?_
    refine mm_T.seg (f' := (64, [some (.ref 18), some (.ref 3), none], [(.ref 32)])) (h' := (107, o2279, J, mm_rf 3 sp rr w nw)) 2 rfl ?_
    refine mm_T.seg (f' := (70, [some (.ref 18), some (.ref 3), none], [(.int (o2279 3 7)), (.int 27), (.ref 32)])) (h' := (107, o2279, J, mm_rf 3 sp rr w nw)) 3 rfl ?_
    refine mm_T.call (t := 205) (as := [(.ref 32), (.int 27), (.int (o2279 3 7))]) (f' := (73, [some (.ref 18), some (.ref 3), none], [])) rfl (t_put _ 32 28 27 (o2279 3 7) o2279 J (mm_rf 3 sp rr w nw) rfl rfl) (fun v h hq => ?_)
    obtain ⟨rfl, rfl⟩ := hq
    cases e
    exact mm_T.ret rfl ⟨rfl, rfl⟩
  · unfold fX7_begin at e
    refine mm_T.seg (f' := (2, [some (.ref 18), some (.ref 3), none], [(.ref 3), (.ref 18)])) (h' := (107, I, J, mm_rf 19 sp rr w nw)) 2 rfl ?_
    refine mm_T.step (f' := (5, [some (.ref 18), some (.ref 3), none], [])) (h' := (107, I, J, mm_up (mm_rf 19 sp rr w nw) 18 1 3)) rfl ?_
    rw [mm_rf_rv]
    refine mm_T.seg (f' := (9, [some (.ref 18), some (.ref 3), none], [(.ref 32)])) (h' := (107, I, J, mm_rf 3 sp rr w nw)) 2 rfl ?_
    refine mm_T.seg (f' := (10, [some (.ref 18), some (.ref 3), none], [(.int 0), (.ref 32)])) (h' := (107, I, J, mm_rf 3 sp rr w nw)) 1 rfl ?_
    refine mm_T.call (t := 344) (as := [(.ref 32), (.int 0)]) (f' := (13, [some (.ref 18), some (.ref 3), none], [])) rfl (t_fill _ 32 28 0 I J (mm_rf 3 sp rr w nw) rfl rfl) (fun v h hq => ?_)
    obtain ⟨rfl, rfl⟩ := hq
    refine mm_T.seg (f' := (15, [some (.ref 18), some (.ref 3), some (.int 0)], [])) (h' := (107, (mf_fill I 32 28 0), J, mm_rf 3 sp rr w nw)) 2 rfl ?_
    refine mm_T.mask [true, true, true] ?_
    obtain ⟨o2277, eo2277, e⟩ := mm_bind e
    refine tlX7_begin_L15 d _ n 0 3 (mf_fill I 32 28 0) J 3 sp rr w nw (Or.inl rfl) o2277 eo2277 ?_
    refine mm_T.seg (f' := (42, [some (.ref 18), some (.ref 3), some (.int 0)], [])) (h' := (107, o2277, J, mm_rf 3 sp rr w nw)) 2 rfl ?_
    refine mm_T.mask [true, true, true] ?_
    obtain ⟨o2279, eo2279, e⟩ := mm_bind e
    refine tlX7_begin_L42 d _ n 0 3 o2277 J 3 sp rr w nw (Or.inl rfl) o2279 eo2279 ?_
    refine mm_T.seg (f' := (64, [some (.ref 18), some (.ref 3), none], [(.ref 32)])) (h' := (107, o2279, J, mm_rf 3 sp rr w nw)) 2 rfl ?_
    refine mm_T.seg (f' := (70, [some (.ref 18), some (.ref 3), none], [(.int (o2279 3 7)), (.int 27), (.ref 32)])) (h' := (107, o2279, J, mm_rf 3 sp rr w nw)) 3 rfl ?_
    refine mm_T.call (t := 205) (as := [(.ref 32), (.int 27), (.int (o2279 3 7))]) (f' := (73, [some (.ref 18), some (.ref 3), none], [])) rfl (t_put _ 32 28 27 (o2279 3 7) o2279 J (mm_rf 3 sp rr w nw) rfl rfl) (fun v h hq => ?_)
    obtain ⟨rfl, rfl⟩ := hq
    cases e
    exact mm_T.ret rfl ⟨rfl, rfl⟩
  · unfold fX7_begin at e
    refine mm_T.seg (f' := (2, [some (.ref 18), some (.ref 19), none], [(.ref 19), (.ref 18)])) (h' := (107, I, J, mm_rf 3 sp rr w nw)) 2 rfl ?_
    refine mm_T.step (f' := (5, [some (.ref 18), some (.ref 19), none], [])) (h' := (107, I, J, mm_up (mm_rf 3 sp rr w nw) 18 1 19)) rfl ?_
    rw [mm_rf_rv]
    refine mm_T.seg (f' := (9, [some (.ref 18), some (.ref 19), none], [(.ref 32)])) (h' := (107, I, J, mm_rf 19 sp rr w nw)) 2 rfl ?_
    refine mm_T.seg (f' := (10, [some (.ref 18), some (.ref 19), none], [(.int 0), (.ref 32)])) (h' := (107, I, J, mm_rf 19 sp rr w nw)) 1 rfl ?_
    refine mm_T.call (t := 344) (as := [(.ref 32), (.int 0)]) (f' := (13, [some (.ref 18), some (.ref 19), none], [])) rfl (t_fill _ 32 28 0 I J (mm_rf 19 sp rr w nw) rfl rfl) (fun v h hq => ?_)
    obtain ⟨rfl, rfl⟩ := hq
    refine mm_T.seg (f' := (15, [some (.ref 18), some (.ref 19), some (.int 0)], [])) (h' := (107, (mf_fill I 32 28 0), J, mm_rf 19 sp rr w nw)) 2 rfl ?_
    refine mm_T.mask [true, true, true] ?_
    obtain ⟨o2277, eo2277, e⟩ := mm_bind e
    refine tlX7_begin_L15 d _ n 0 19 (mf_fill I 32 28 0) J 19 sp rr w nw (Or.inr rfl) o2277 eo2277 ?_
    refine mm_T.seg (f' := (42, [some (.ref 18), some (.ref 19), some (.int 0)], [])) (h' := (107, o2277, J, mm_rf 19 sp rr w nw)) 2 rfl ?_
    refine mm_T.mask [true, true, true] ?_
    obtain ⟨o2279, eo2279, e⟩ := mm_bind e
    refine tlX7_begin_L42 d _ n 0 19 o2277 J 19 sp rr w nw (Or.inr rfl) o2279 eo2279 ?_
    refine mm_T.seg (f' := (64, [some (.ref 18), some (.ref 19), none], [(.ref 32)])) (h' := (107, o2279, J, mm_rf 19 sp rr w nw)) 2 rfl ?_
    refine mm_T.seg (f' := (70, [some (.ref 18), some (.ref 19), none], [(.int (o2279 19 7)), (.int 27), (.ref 32)])) (h' := (107, o2279, J, mm_rf 19 sp rr w nw)) 3 rfl ?_
    refine mm_T.call (t := 205) (as := [(.ref 32), (.int 27), (.int (o2279 19 7))]) (f' := (73, [some (.ref 18), some (.ref 19), none], [])) rfl (t_put _ 32 28 27 (o2279 19 7) o2279 J (mm_rf 19 sp rr w nw) rfl rfl) (fun v h hq => ?_)
    obtain ⟨rfl, rfl⟩ := hq
    cases e
    exact mm_T.ret rfl ⟨rfl, rfl⟩
  · unfold fX7_begin at e
    refine mm_T.seg (f' := (2, [some (.ref 18), some (.ref 19), none], [(.ref 19), (.ref 18)])) (h' := (107, I, J, mm_rf 19 sp rr w nw)) 2 rfl ?_
    refine mm_T.step (f' := (5, [some (.ref 18), some (.ref 19), none], [])) (h' := (107, I, J, mm_up (mm_rf 19 sp rr w nw) 18 1 19)) rfl ?_
    rw [mm_rf_rv]
    refine mm_T.seg (f' := (9, [some (.ref 18), some (.ref 19), none], [(.ref 32)])) (h' := (107, I, J, mm_rf 19 sp rr w nw)) 2 rfl ?_
    refine mm_T.seg (f' := (10, [some (.ref 18), some (.ref 19), none], [(.int 0), (.ref 32)])) (h' := (107, I, J, mm_rf 19 sp rr w nw)) 1 rfl ?_
    refine mm_T.call (t := 344) (as := [(.ref 32), (.int 0)]) (f' := (13, [some (.ref 18), some (.ref 19), none], [])) rfl (t_fill _ 32 28 0 I J (mm_rf 19 sp rr w nw) rfl rfl) (fun v h hq => ?_)
    obtain ⟨rfl, rfl⟩ := hq
    refine mm_T.seg (f' := (15, [some (.ref 18), some (.ref 19), some (.int 0)], [])) (h' := (107, (mf_fill I 32 28 0), J, mm_rf 19 sp rr w nw)) 2 rfl ?_
    refine mm_T.mask [true, true, true] ?_
    obtain ⟨o2277, eo2277, e⟩ := mm_bind e
    refine tlX7_begin_L15 d _ n 0 19 (mf_fill I 32 28 0) J 19 sp rr w nw (Or.inr rfl) o2277 eo2277 ?_
    refine mm_T.seg (f' := (42, [some (.ref 18), some (.ref 19), some (.int 0)], [])) (h' := (107, o2277, J, mm_rf 19 sp rr w nw)) 2 rfl ?_
    refine mm_T.mask [true, true, true] ?_
    obtain ⟨o2279, eo2279, e⟩ := mm_bind e
    refine tlX7_begin_L42 d _ n 0 19 o2277 J 19 sp rr w nw (Or.inr rfl) o2279 eo2279 ?_
    refine mm_T.seg (f' := (64, [some (.ref 18), some (.ref 19), none], [(.ref 32)])) (h' := (107, o2279, J, mm_rf 19 sp rr w nw)) 2 rfl ?_
    refine mm_T.seg (f' := (70, [some (.ref 18), some (.ref 19), none], [(.int (o2279 19 7)), (.int 27), (.ref 32)])) (h' := (107, o2279, J, mm_rf 19 sp rr w nw)) 3 rfl ?_
    refine mm_T.call (t := 205) (as := [(.ref 32), (.int 27), (.int (o2279 19 7))]) (f' := (73, [some (.ref 18), some (.ref 19), none], [])) rfl (t_put _ 32 28 27 (o2279 19 7) o2279 J (mm_rf 19 sp rr w nw) rfl rfl) (fun v h hq => ?_)
    obtain ⟨rfl, rfl⟩ := hq
    cases e
    exact mm_T.ret rfl ⟨rfl, rfl⟩
set_option maxRecDepth 100000 in
set_option maxHeartbeats 4000000 in
theorem tX11_river (d n : Nat) (I : Nat → Nat → Int32) (J : Nat → Nat → Int64) (rv sp rr w nw : Nat) (hrv : rv = 3 ∨ rv = 19) (hsp : sp = 3 ∨ sp = 19) (hrr : rr = 3 ∨ rr = 19) (out : Int32 × (Nat → Nat → Int32) × (Nat → Nat → Int64) × Nat × Nat × Nat) (e : fX11_river n I J rv sp rr = some out) : mm_T none (d + 108) 162 (mm_ent 162 [(.ref 1)]) (107, I, J, mm_rf rv sp rr w nw) (fun v h => v = some (.int out.1) ∧ h = (107, out.2.1, out.2.2.1, mm_rf out.2.2.2.1 out.2.2.2.2.1 out.2.2.2.2.2 w nw)) := by
  rcases hrv, hsp, hrr with ⟨rfl | rfl, rfl | rfl, rfl | rfl⟩
  · unfold fX11_river at e
    refine mm_T.seg (f' := (4, [some (.ref 1), none, none], [(.ref 16)])) (h' := (107, I, J, mm_rf 3 3 3 w nw)) 2 rfl ?_
    refine mm_T.seg (f' := (8, [some (.ref 1), none, none], [(.ref 2), (.ref 16)])) (h' := (107, I, J, mm_rf 3 3 3 w nw)) 2 rfl ?_
    refine mm_T.seg (f' := (16, [some (.ref 1), none, none], [(.ref 3), (.int (I 1 1)), (.ref 2), (.ref 16)])) (h' := (107, I, J, mm_rf 3 3 3 w nw)) 4 rfl ?_
    obtain ⟨o2274, eo2274, e⟩ := mm_bind e
    refine mm_T.call (t := 29) (as := [(.ref 16), (.ref 2), (.int (I 1 1)), (.ref 3)]) (f' := (19, [some (.ref 1), none, none], [])) rfl (tX4_read_2 (d + 0) n (I 1 1) 3 I J 3 3 3 w nw (Or.inl rfl) (Or.inl rfl) o2274 eo2274) (fun v h hq => ?_)
    obtain ⟨rfl, rfl⟩ := hq
    refine mm_T.seg (f' := (30, [some (.ref 1), some (.int o2274.1), none], [(.ref 16), (.ref 1)])) (h' := (107, (mm_up o2274.2.1 1 1 0), o2274.2.2, mm_rf 3 3 3 w nw)) 7 rfl ?_
    refine mm_T.seg (f' := (41, [some (.ref 1), some (.int o2274.1), none], [(.ref 16), (.ref 1)])) (h' := (107, (mm_up (mm_up o2274.2.1 1 1 0) 1 2 (o2274.2.1 16 11)), o2274.2.2, mm_rf 3 3 3 w nw)) 5 rfl ?_
    refine mm_T.seg (f' := (48, [some (.ref 1), some (.int o2274.1), none], [(.int o2274.1)])) (h' := (107, (mm_up (mm_up (mm_up o2274.2.1 1 1 0) 1 2 (o2274.2.1 16 11)) 1 3 (o2274.2.1 16 12)), o2274.2.2, mm_rf 3 3 3 w nw)) 3 rfl ?_
    refine mm_T.br (c := o2274.1 = 0) (a := ((51, [some (.ref 1), some (.int o2274.1), none], []), (107, (mm_up (mm_up (mm_up o2274.2.1 1 1 0) 1 2 (o2274.2.1 16 11)) 1 3 (o2274.2.1 16 12)), o2274.2.2, mm_rf 3 3 3 w nw))) (b := ((53, [some (.ref 1), some (.int o2274.1), none], []), (107, (mm_up (mm_up (mm_up o2274.2.1 1 1 0) 1 2 (o2274.2.1 16 11)) 1 3 (o2274.2.1 16 12)), o2274.2.2, mm_rf 3 3 3 w nw))) rfl (fun h2275 => ?_) (fun h2275 => ?_)
    · rw [if_pos h2275] at e
      refine mm_T.seg (f' := (52, [some (.ref 1), some (.int o2274.1), none], [(.int (-1))])) (h' := (107, (mm_up (mm_up (mm_up o2274.2.1 1 1 0) 1 2 (o2274.2.1 16 11)) 1 3 (o2274.2.1 16 12)), o2274.2.2, mm_rf 3 3 3 w nw)) 1 rfl ?_
      cases e
      exact mm_T.ret rfl ⟨rfl, rfl⟩
    · rw [if_neg h2275] at e
      refine mm_T.seg (f' := (57, [some (.ref 1), some (.int o2274.1), none], [(.ref 18)])) (h' := (107, (mm_up (mm_up (mm_up o2274.2.1 1 1 0) 1 2 (o2274.2.1 16 11)) 1 3 (o2274.2.1 16 12)), o2274.2.2, mm_rf 3 3 3 w nw)) 2 rfl ?_
      refine mm_T.seg (f' := (65, [some (.ref 1), some (.int o2274.1), some (.ref 3)], [(.ref 18)])) (h' := (107, (mm_up (mm_up (mm_up o2274.2.1 1 1 0) 1 2 (o2274.2.1 16 11)) 1 3 (o2274.2.1 16 12)), o2274.2.2, mm_rf 3 3 3 w nw)) 4 rfl ?_
      refine mm_T.seg (f' := (69, [some (.ref 1), some (.int o2274.1), some (.ref 3)], [(.ref 3), (.ref 18)])) (h' := (107, (mm_up (mm_up (mm_up o2274.2.1 1 1 0) 1 2 (o2274.2.1 16 11)) 1 3 (o2274.2.1 16 12)), o2274.2.2, mm_rf 3 3 3 w nw)) 2 rfl ?_
      obtain ⟨o2280, eo2280, e⟩ := mm_bind e
      refine mm_T.call (t := 100) (as := [(.ref 18), (.ref 3)]) (f' := (72, [some (.ref 1), some (.int o2274.1), some (.ref 3)], [])) rfl (tX7_begin (d + 105) n 3 (mm_up (mm_up (mm_up o2274.2.1 1 1 0) 1 2 (o2274.2.1 16 11)) 1 3 (o2274.2.1 16 12)) o2274.2.2 3 3 3 w nw (Or.inl rfl) (Or.inl rfl) o2280 eo2280) (fun v h hq => ?_)
      obtain ⟨rfl, rfl⟩ := hq
      refine mm_T.seg (f' := (74, [some (.ref 1), some (.int o2274.1), some (.ref 3)], [(.ref 3), (.ref 1)])) (h' := (107, o2280, o2274.2.2, mm_rf 3 3 3 w nw)) 2 rfl ?_
      refine mm_T.step (f' := (77, [some (.ref 1), some (.int o2274.1), some (.ref 3)], [])) (h' := (107, o2280, o2274.2.2, mm_up (mm_rf 3 3 3 w nw) 1 4 3)) rfl ?_
      rw [mm_rf_sp]
      refine mm_T.seg (f' := (81, [some (.ref 1), some (.int o2274.1), some (.ref 3)], [(.ref 33)])) (h' := (107, o2280, o2274.2.2, mm_rf 3 3 3 w nw)) 2 rfl ?_
      obtain ⟨g415, hg415⟩ : ∃ z, fX2_forgetActs o2280 = z := ⟨_, rfl⟩
      try rw [hg415] at e
      refine mm_T.call (t := 15) (as := [(.ref 33)]) (f' := (84, [some (.ref 1), some (.int o2274.1), some (.ref 3)], [])) rfl (tX2_forgetActs (d + 107) o2280 o2274.2.2 3 3 3 w nw g415 hg415) (fun v h hq => ?_)
      obtain ⟨rfl, rfl⟩ := hq
      refine mm_T.seg (f' := (88, [some (.ref 1), some (.int o2274.1), some (.ref 3)], [(.ref 33)])) (h' := (107, g415, o2274.2.2, mm_rf 3 3 3 w nw)) 2 rfl ?_
      obtain ⟨g416, hg416⟩ : ∃ z, fX2_emptyBoxes g415 = z := ⟨_, rfl⟩
      try rw [hg416] at e
      refine mm_T.call (t := 19) (as := [(.ref 33)]) (f' := (91, [some (.ref 1), some (.int o2274.1), some (.ref 3)], [])) rfl (tX2_emptyBoxes (d + 107) g415 o2274.2.2 3 3 3 w nw g416 hg416) (fun v h hq => ?_)
      obtain ⟨rfl, rfl⟩ := hq
      refine mm_T.seg (f' := (95, [some (.ref 1), some (.int o2274.1), some (.ref 3)], [(.ref 35)])) (h' := (107, g416, o2274.2.2, mm_rf 3 3 3 w nw)) 2 rfl ?_
      obtain ⟨g417, hg417⟩ : ∃ z, fX3_clear g416 = z := ⟨_, rfl⟩
      try rw [hg417] at e
      refine mm_T.call (t := 23) (as := [(.ref 35)]) (f' := (98, [some (.ref 1), some (.int o2274.1), some (.ref 3)], [])) rfl (tX3_clear (d + 107) g416 o2274.2.2 3 3 3 w nw g417 hg417) (fun v h hq => ?_)
      obtain ⟨rfl, rfl⟩ := hq
      refine mm_T.seg (f' := (102, [some (.ref 1), some (.int o2274.1), some (.ref 3)], [(.ref 54)])) (h' := (107, g417, o2274.2.2, mm_rf 3 3 3 w nw)) 2 rfl ?_
      obtain ⟨g418, hg418⟩ : ∃ z, fX10_forget g417 = z := ⟨_, rfl⟩
      try rw [hg418] at e
      refine mm_T.call (t := 140) (as := [(.ref 54)]) (f' := (105, [some (.ref 1), some (.int o2274.1), some (.ref 3)], [])) rfl (tX10_forget (d + 107) g417 o2274.2.2 3 3 3 w nw g418 hg418) (fun v h hq => ?_)
      obtain ⟨rfl, rfl⟩ := hq
      refine mm_T.seg (f' := (109, [some (.ref 1), some (.int o2274.1), some (.ref 3)], [(.ref 18)])) (h' := (107, g418, o2274.2.2, mm_rf 3 3 3 w nw)) 2 rfl ?_
      refine mm_T.seg (f' := (115, [some (.ref 1), some (.int o2274.1), some (.ref 3)], [(.int (g418 3 4))])) (h' := (107, g418, o2274.2.2, mm_rf 3 3 3 w nw)) 2 rfl ?_
      cases e
      exact mm_T.ret rfl ⟨rfl, rfl⟩
  · unfold fX11_river at e
    refine mm_T.seg (f' := (4, [some (.ref 1), none, none], [(.ref 16)])) (h' := (107, I, J, mm_rf 3 3 19 w nw)) 2 rfl ?_
    refine mm_T.seg (f' := (8, [some (.ref 1), none, none], [(.ref 2), (.ref 16)])) (h' := (107, I, J, mm_rf 3 3 19 w nw)) 2 rfl ?_
    refine mm_T.seg (f' := (16, [some (.ref 1), none, none], [(.ref 3), (.int (I 1 1)), (.ref 2), (.ref 16)])) (h' := (107, I, J, mm_rf 3 3 19 w nw)) 4 rfl ?_
    obtain ⟨o2274, eo2274, e⟩ := mm_bind e
    refine mm_T.call (t := 29) (as := [(.ref 16), (.ref 2), (.int (I 1 1)), (.ref 3)]) (f' := (19, [some (.ref 1), none, none], [])) rfl (tX4_read_2 (d + 0) n (I 1 1) 3 I J 3 3 19 w nw (Or.inl rfl) (Or.inr rfl) o2274 eo2274) (fun v h hq => ?_)
    obtain ⟨rfl, rfl⟩ := hq
    refine mm_T.seg (f' := (30, [some (.ref 1), some (.int o2274.1), none], [(.ref 16), (.ref 1)])) (h' := (107, (mm_up o2274.2.1 1 1 0), o2274.2.2, mm_rf 3 3 3 w nw)) 7 rfl ?_
    refine mm_T.seg (f' := (41, [some (.ref 1), some (.int o2274.1), none], [(.ref 16), (.ref 1)])) (h' := (107, (mm_up (mm_up o2274.2.1 1 1 0) 1 2 (o2274.2.1 16 11)), o2274.2.2, mm_rf 3 3 3 w nw)) 5 rfl ?_
    refine mm_T.seg (f' := (48, [some (.ref 1), some (.int o2274.1), none], [(.int o2274.1)])) (h' := (107, (mm_up (mm_up (mm_up o2274.2.1 1 1 0) 1 2 (o2274.2.1 16 11)) 1 3 (o2274.2.1 16 12)), o2274.2.2, mm_rf 3 3 3 w nw)) 3 rfl ?_
    refine mm_T.br (c := o2274.1 = 0) (a := ((51, [some (.ref 1), some (.int o2274.1), none], []), (107, (mm_up (mm_up (mm_up o2274.2.1 1 1 0) 1 2 (o2274.2.1 16 11)) 1 3 (o2274.2.1 16 12)), o2274.2.2, mm_rf 3 3 3 w nw))) (b := ((53, [some (.ref 1), some (.int o2274.1), none], []), (107, (mm_up (mm_up (mm_up o2274.2.1 1 1 0) 1 2 (o2274.2.1 16 11)) 1 3 (o2274.2.1 16 12)), o2274.2.2, mm_rf 3 3 3 w nw))) rfl (fun h2275 => ?_) (fun h2275 => ?_)
    · rw [if_pos h2275] at e
      refine mm_T.seg (f' := (52, [some (.ref 1), some (.int o2274.1), none], [(.int (-1))])) (h' := (107, (mm_up (mm_up (mm_up o2274.2.1 1 1 0) 1 2 (o2274.2.1 16 11)) 1 3 (o2274.2.1 16 12)), o2274.2.2, mm_rf 3 3 3 w nw)) 1 rfl ?_
      cases e
      exact mm_T.ret rfl ⟨rfl, rfl⟩
    · rw [if_neg h2275] at e
      refine mm_T.seg (f' := (57, [some (.ref 1), some (.int o2274.1), none], [(.ref 18)])) (h' := (107, (mm_up (mm_up (mm_up o2274.2.1 1 1 0) 1 2 (o2274.2.1 16 11)) 1 3 (o2274.2.1 16 12)), o2274.2.2, mm_rf 3 3 3 w nw)) 2 rfl ?_
      refine mm_T.seg (f' := (65, [some (.ref 1), some (.int o2274.1), some (.ref 3)], [(.ref 18)])) (h' := (107, (mm_up (mm_up (mm_up o2274.2.1 1 1 0) 1 2 (o2274.2.1 16 11)) 1 3 (o2274.2.1 16 12)), o2274.2.2, mm_rf 3 3 3 w nw)) 4 rfl ?_
      refine mm_T.seg (f' := (69, [some (.ref 1), some (.int o2274.1), some (.ref 3)], [(.ref 3), (.ref 18)])) (h' := (107, (mm_up (mm_up (mm_up o2274.2.1 1 1 0) 1 2 (o2274.2.1 16 11)) 1 3 (o2274.2.1 16 12)), o2274.2.2, mm_rf 3 3 3 w nw)) 2 rfl ?_
      obtain ⟨o2280, eo2280, e⟩ := mm_bind e
      refine mm_T.call (t := 100) (as := [(.ref 18), (.ref 3)]) (f' := (72, [some (.ref 1), some (.int o2274.1), some (.ref 3)], [])) rfl (tX7_begin (d + 105) n 3 (mm_up (mm_up (mm_up o2274.2.1 1 1 0) 1 2 (o2274.2.1 16 11)) 1 3 (o2274.2.1 16 12)) o2274.2.2 3 3 3 w nw (Or.inl rfl) (Or.inl rfl) o2280 eo2280) (fun v h hq => ?_)
      obtain ⟨rfl, rfl⟩ := hq
      refine mm_T.seg (f' := (74, [some (.ref 1), some (.int o2274.1), some (.ref 3)], [(.ref 3), (.ref 1)])) (h' := (107, o2280, o2274.2.2, mm_rf 3 3 3 w nw)) 2 rfl ?_
      refine mm_T.step (f' := (77, [some (.ref 1), some (.int o2274.1), some (.ref 3)], [])) (h' := (107, o2280, o2274.2.2, mm_up (mm_rf 3 3 3 w nw) 1 4 3)) rfl ?_
      rw [mm_rf_sp]
      refine mm_T.seg (f' := (81, [some (.ref 1), some (.int o2274.1), some (.ref 3)], [(.ref 33)])) (h' := (107, o2280, o2274.2.2, mm_rf 3 3 3 w nw)) 2 rfl ?_
      obtain ⟨g415, hg415⟩ : ∃ z, fX2_forgetActs o2280 = z := ⟨_, rfl⟩
      try rw [hg415] at e
      refine mm_T.call (t := 15) (as := [(.ref 33)]) (f' := (84, [some (.ref 1), some (.int o2274.1), some (.ref 3)], [])) rfl (tX2_forgetActs (d + 107) o2280 o2274.2.2 3 3 3 w nw g415 hg415) (fun v h hq => ?_)
      obtain ⟨rfl, rfl⟩ := hq
      refine mm_T.seg (f' := (88, [some (.ref 1), some (.int o2274.1), some (.ref 3)], [(.ref 33)])) (h' := (107, g415, o2274.2.2, mm_rf 3 3 3 w nw)) 2 rfl ?_
      obtain ⟨g416, hg416⟩ : ∃ z, fX2_emptyBoxes g415 = z := ⟨_, rfl⟩
      try rw [hg416] at e
      refine mm_T.call (t := 19) (as := [(.ref 33)]) (f' := (91, [some (.ref 1), some (.int o2274.1), some (.ref 3)], [])) rfl (tX2_emptyBoxes (d + 107) g415 o2274.2.2 3 3 3 w nw g416 hg416) (fun v h hq => ?_)
      obtain ⟨rfl, rfl⟩ := hq
      refine mm_T.seg (f' := (95, [some (.ref 1), some (.int o2274.1), some (.ref 3)], [(.ref 35)])) (h' := (107, g416, o2274.2.2, mm_rf 3 3 3 w nw)) 2 rfl ?_
      obtain ⟨g417, hg417⟩ : ∃ z, fX3_clear g416 = z := ⟨_, rfl⟩
      try rw [hg417] at e
      refine mm_T.call (t := 23) (as := [(.ref 35)]) (f' := (98, [some (.ref 1), some (.int o2274.1), some (.ref 3)], [])) rfl (tX3_clear (d + 107) g416 o2274.2.2 3 3 3 w nw g417 hg417) (fun v h hq => ?_)
      obtain ⟨rfl, rfl⟩ := hq
      refine mm_T.seg (f' := (102, [some (.ref 1), some (.int o2274.1), some (.ref 3)], [(.ref 54)])) (h' := (107, g417, o2274.2.2, mm_rf 3 3 3 w nw)) 2 rfl ?_
      obtain ⟨g418, hg418⟩ : ∃ z, fX10_forget g417 = z := ⟨_, rfl⟩
      try rw [hg418] at e
      refine mm_T.call (t := 140) (as := [(.ref 54)]) (f' := (105, [some (.ref 1), some (.int o2274.1), some (.ref 3)], [])) rfl (tX10_forget (d + 107) g417 o2274.2.2 3 3 3 w nw g418 hg418) (fun v h hq => ?_)
      obtain ⟨rfl, rfl⟩ := hq
      refine mm_T.seg (f' := (109, [some (.ref 1), some (.int o2274.1), some (.ref 3)], [(.ref 18)])) (h' := (107, g418, o2274.2.2, mm_rf 3 3 3 w nw)) 2 rfl ?_
      refine mm_T.seg (f' := (115, [some (.ref 1), some (.int o2274.1), some (.ref 3)], [(.int (g418 3 4))])) (h' := (107, g418, o2274.2.2, mm_rf 3 3 3 w nw)) 2 rfl ?_
      cases e
      exact mm_T.ret rfl ⟨rfl, rfl⟩
  · unfold fX11_river at e
    refine mm_T.seg (f' := (4, [some (.ref 1), none, none], [(.ref 16)])) (h' := (107, I, J, mm_rf 3 19 3 w nw)) 2 rfl ?_
    refine mm_T.seg (f' := (8, [some (.ref 1), none, none], [(.ref 2), (.ref 16)])) (h' := (107, I, J, mm_rf 3 19 3 w nw)) 2 rfl ?_
    refine mm_T.seg (f' := (16, [some (.ref 1), none, none], [(.ref 19), (.int (I 1 1)), (.ref 2), (.ref 16)])) (h' := (107, I, J, mm_rf 3 19 3 w nw)) 4 rfl ?_
    obtain ⟨o2274, eo2274, e⟩ := mm_bind e
    refine mm_T.call (t := 29) (as := [(.ref 16), (.ref 2), (.int (I 1 1)), (.ref 19)]) (f' := (19, [some (.ref 1), none, none], [])) rfl (tX4_read_2 (d + 0) n (I 1 1) 19 I J 3 19 3 w nw (Or.inr rfl) (Or.inl rfl) o2274 eo2274) (fun v h hq => ?_)
    obtain ⟨rfl, rfl⟩ := hq
    refine mm_T.seg (f' := (30, [some (.ref 1), some (.int o2274.1), none], [(.ref 16), (.ref 1)])) (h' := (107, (mm_up o2274.2.1 1 1 0), o2274.2.2, mm_rf 3 19 19 w nw)) 7 rfl ?_
    refine mm_T.seg (f' := (41, [some (.ref 1), some (.int o2274.1), none], [(.ref 16), (.ref 1)])) (h' := (107, (mm_up (mm_up o2274.2.1 1 1 0) 1 2 (o2274.2.1 16 11)), o2274.2.2, mm_rf 3 19 19 w nw)) 5 rfl ?_
    refine mm_T.seg (f' := (48, [some (.ref 1), some (.int o2274.1), none], [(.int o2274.1)])) (h' := (107, (mm_up (mm_up (mm_up o2274.2.1 1 1 0) 1 2 (o2274.2.1 16 11)) 1 3 (o2274.2.1 16 12)), o2274.2.2, mm_rf 3 19 19 w nw)) 3 rfl ?_
    refine mm_T.br (c := o2274.1 = 0) (a := ((51, [some (.ref 1), some (.int o2274.1), none], []), (107, (mm_up (mm_up (mm_up o2274.2.1 1 1 0) 1 2 (o2274.2.1 16 11)) 1 3 (o2274.2.1 16 12)), o2274.2.2, mm_rf 3 19 19 w nw))) (b := ((53, [some (.ref 1), some (.int o2274.1), none], []), (107, (mm_up (mm_up (mm_up o2274.2.1 1 1 0) 1 2 (o2274.2.1 16 11)) 1 3 (o2274.2.1 16 12)), o2274.2.2, mm_rf 3 19 19 w nw))) rfl (fun h2275 => ?_) (fun h2275 => ?_)
    · rw [if_pos h2275] at e
      refine mm_T.seg (f' := (52, [some (.ref 1), some (.int o2274.1), none], [(.int (-1))])) (h' := (107, (mm_up (mm_up (mm_up o2274.2.1 1 1 0) 1 2 (o2274.2.1 16 11)) 1 3 (o2274.2.1 16 12)), o2274.2.2, mm_rf 3 19 19 w nw)) 1 rfl ?_
      cases e
      exact mm_T.ret rfl ⟨rfl, rfl⟩
    · rw [if_neg h2275] at e
      refine mm_T.seg (f' := (57, [some (.ref 1), some (.int o2274.1), none], [(.ref 18)])) (h' := (107, (mm_up (mm_up (mm_up o2274.2.1 1 1 0) 1 2 (o2274.2.1 16 11)) 1 3 (o2274.2.1 16 12)), o2274.2.2, mm_rf 3 19 19 w nw)) 2 rfl ?_
      refine mm_T.seg (f' := (65, [some (.ref 1), some (.int o2274.1), some (.ref 3)], [(.ref 18)])) (h' := (107, (mm_up (mm_up (mm_up o2274.2.1 1 1 0) 1 2 (o2274.2.1 16 11)) 1 3 (o2274.2.1 16 12)), o2274.2.2, mm_rf 3 19 19 w nw)) 4 rfl ?_
      refine mm_T.seg (f' := (69, [some (.ref 1), some (.int o2274.1), some (.ref 3)], [(.ref 19), (.ref 18)])) (h' := (107, (mm_up (mm_up (mm_up o2274.2.1 1 1 0) 1 2 (o2274.2.1 16 11)) 1 3 (o2274.2.1 16 12)), o2274.2.2, mm_rf 3 19 19 w nw)) 2 rfl ?_
      obtain ⟨o2280, eo2280, e⟩ := mm_bind e
      refine mm_T.call (t := 100) (as := [(.ref 18), (.ref 19)]) (f' := (72, [some (.ref 1), some (.int o2274.1), some (.ref 3)], [])) rfl (tX7_begin (d + 105) n 19 (mm_up (mm_up (mm_up o2274.2.1 1 1 0) 1 2 (o2274.2.1 16 11)) 1 3 (o2274.2.1 16 12)) o2274.2.2 3 19 19 w nw (Or.inr rfl) (Or.inl rfl) o2280 eo2280) (fun v h hq => ?_)
      obtain ⟨rfl, rfl⟩ := hq
      refine mm_T.seg (f' := (74, [some (.ref 1), some (.int o2274.1), some (.ref 3)], [(.ref 3), (.ref 1)])) (h' := (107, o2280, o2274.2.2, mm_rf 19 19 19 w nw)) 2 rfl ?_
      refine mm_T.step (f' := (77, [some (.ref 1), some (.int o2274.1), some (.ref 3)], [])) (h' := (107, o2280, o2274.2.2, mm_up (mm_rf 19 19 19 w nw) 1 4 3)) rfl ?_
      rw [mm_rf_sp]
      refine mm_T.seg (f' := (81, [some (.ref 1), some (.int o2274.1), some (.ref 3)], [(.ref 33)])) (h' := (107, o2280, o2274.2.2, mm_rf 19 3 19 w nw)) 2 rfl ?_
      obtain ⟨g415, hg415⟩ : ∃ z, fX2_forgetActs o2280 = z := ⟨_, rfl⟩
      try rw [hg415] at e
      refine mm_T.call (t := 15) (as := [(.ref 33)]) (f' := (84, [some (.ref 1), some (.int o2274.1), some (.ref 3)], [])) rfl (tX2_forgetActs (d + 107) o2280 o2274.2.2 19 3 19 w nw g415 hg415) (fun v h hq => ?_)
      obtain ⟨rfl, rfl⟩ := hq
      refine mm_T.seg (f' := (88, [some (.ref 1), some (.int o2274.1), some (.ref 3)], [(.ref 33)])) (h' := (107, g415, o2274.2.2, mm_rf 19 3 19 w nw)) 2 rfl ?_
      obtain ⟨g416, hg416⟩ : ∃ z, fX2_emptyBoxes g415 = z := ⟨_, rfl⟩
      try rw [hg416] at e
      refine mm_T.call (t := 19) (as := [(.ref 33)]) (f' := (91, [some (.ref 1), some (.int o2274.1), some (.ref 3)], [])) rfl (tX2_emptyBoxes (d + 107) g415 o2274.2.2 19 3 19 w nw g416 hg416) (fun v h hq => ?_)
      obtain ⟨rfl, rfl⟩ := hq
      refine mm_T.seg (f' := (95, [some (.ref 1), some (.int o2274.1), some (.ref 3)], [(.ref 35)])) (h' := (107, g416, o2274.2.2, mm_rf 19 3 19 w nw)) 2 rfl ?_
      obtain ⟨g417, hg417⟩ : ∃ z, fX3_clear g416 = z := ⟨_, rfl⟩
      try rw [hg417] at e
      refine mm_T.call (t := 23) (as := [(.ref 35)]) (f' := (98, [some (.ref 1), some (.int o2274.1), some (.ref 3)], [])) rfl (tX3_clear (d + 107) g416 o2274.2.2 19 3 19 w nw g417 hg417) (fun v h hq => ?_)
      obtain ⟨rfl, rfl⟩ := hq
      refine mm_T.seg (f' := (102, [some (.ref 1), some (.int o2274.1), some (.ref 3)], [(.ref 54)])) (h' := (107, g417, o2274.2.2, mm_rf 19 3 19 w nw)) 2 rfl ?_
      obtain ⟨g418, hg418⟩ : ∃ z, fX10_forget g417 = z := ⟨_, rfl⟩
      try rw [hg418] at e
      refine mm_T.call (t := 140) (as := [(.ref 54)]) (f' := (105, [some (.ref 1), some (.int o2274.1), some (.ref 3)], [])) rfl (tX10_forget (d + 107) g417 o2274.2.2 19 3 19 w nw g418 hg418) (fun v h hq => ?_)
      obtain ⟨rfl, rfl⟩ := hq
      refine mm_T.seg (f' := (109, [some (.ref 1), some (.int o2274.1), some (.ref 3)], [(.ref 18)])) (h' := (107, g418, o2274.2.2, mm_rf 19 3 19 w nw)) 2 rfl ?_
      refine mm_T.seg (f' := (115, [some (.ref 1), some (.int o2274.1), some (.ref 3)], [(.int (g418 19 4))])) (h' := (107, g418, o2274.2.2, mm_rf 19 3 19 w nw)) 2 rfl ?_
      cases e
      exact mm_T.ret rfl ⟨rfl, rfl⟩
  · unfold fX11_river at e
    refine mm_T.seg (f' := (4, [some (.ref 1), none, none], [(.ref 16)])) (h' := (107, I, J, mm_rf 3 19 19 w nw)) 2 rfl ?_
    refine mm_T.seg (f' := (8, [some (.ref 1), none, none], [(.ref 2), (.ref 16)])) (h' := (107, I, J, mm_rf 3 19 19 w nw)) 2 rfl ?_
    refine mm_T.seg (f' := (16, [some (.ref 1), none, none], [(.ref 19), (.int (I 1 1)), (.ref 2), (.ref 16)])) (h' := (107, I, J, mm_rf 3 19 19 w nw)) 4 rfl ?_
    obtain ⟨o2274, eo2274, e⟩ := mm_bind e
    refine mm_T.call (t := 29) (as := [(.ref 16), (.ref 2), (.int (I 1 1)), (.ref 19)]) (f' := (19, [some (.ref 1), none, none], [])) rfl (tX4_read_2 (d + 0) n (I 1 1) 19 I J 3 19 19 w nw (Or.inr rfl) (Or.inr rfl) o2274 eo2274) (fun v h hq => ?_)
    obtain ⟨rfl, rfl⟩ := hq
    refine mm_T.seg (f' := (30, [some (.ref 1), some (.int o2274.1), none], [(.ref 16), (.ref 1)])) (h' := (107, (mm_up o2274.2.1 1 1 0), o2274.2.2, mm_rf 3 19 19 w nw)) 7 rfl ?_
    refine mm_T.seg (f' := (41, [some (.ref 1), some (.int o2274.1), none], [(.ref 16), (.ref 1)])) (h' := (107, (mm_up (mm_up o2274.2.1 1 1 0) 1 2 (o2274.2.1 16 11)), o2274.2.2, mm_rf 3 19 19 w nw)) 5 rfl ?_
    refine mm_T.seg (f' := (48, [some (.ref 1), some (.int o2274.1), none], [(.int o2274.1)])) (h' := (107, (mm_up (mm_up (mm_up o2274.2.1 1 1 0) 1 2 (o2274.2.1 16 11)) 1 3 (o2274.2.1 16 12)), o2274.2.2, mm_rf 3 19 19 w nw)) 3 rfl ?_
    refine mm_T.br (c := o2274.1 = 0) (a := ((51, [some (.ref 1), some (.int o2274.1), none], []), (107, (mm_up (mm_up (mm_up o2274.2.1 1 1 0) 1 2 (o2274.2.1 16 11)) 1 3 (o2274.2.1 16 12)), o2274.2.2, mm_rf 3 19 19 w nw))) (b := ((53, [some (.ref 1), some (.int o2274.1), none], []), (107, (mm_up (mm_up (mm_up o2274.2.1 1 1 0) 1 2 (o2274.2.1 16 11)) 1 3 (o2274.2.1 16 12)), o2274.2.2, mm_rf 3 19 19 w nw))) rfl (fun h2275 => ?_) (fun h2275 => ?_)
    · rw [if_pos h2275] at e
      refine mm_T.seg (f' := (52, [some (.ref 1), some (.int o2274.1), none], [(.int (-1))])) (h' := (107, (mm_up (mm_up (mm_up o2274.2.1 1 1 0) 1 2 (o2274.2.1 16 11)) 1 3 (o2274.2.1 16 12)), o2274.2.2, mm_rf 3 19 19 w nw)) 1 rfl ?_
      cases e
      exact mm_T.ret rfl ⟨rfl, rfl⟩
    · rw [if_neg h2275] at e
      refine mm_T.seg (f' := (57, [some (.ref 1), some (.int o2274.1), none], [(.ref 18)])) (h' := (107, (mm_up (mm_up (mm_up o2274.2.1 1 1 0) 1 2 (o2274.2.1 16 11)) 1 3 (o2274.2.1 16 12)), o2274.2.2, mm_rf 3 19 19 w nw)) 2 rfl ?_
      refine mm_T.seg (f' := (65, [some (.ref 1), some (.int o2274.1), some (.ref 3)], [(.ref 18)])) (h' := (107, (mm_up (mm_up (mm_up o2274.2.1 1 1 0) 1 2 (o2274.2.1 16 11)) 1 3 (o2274.2.1 16 12)), o2274.2.2, mm_rf 3 19 19 w nw)) 4 rfl ?_
      refine mm_T.seg (f' := (69, [some (.ref 1), some (.int o2274.1), some (.ref 3)], [(.ref 19), (.ref 18)])) (h' := (107, (mm_up (mm_up (mm_up o2274.2.1 1 1 0) 1 2 (o2274.2.1 16 11)) 1 3 (o2274.2.1 16 12)), o2274.2.2, mm_rf 3 19 19 w nw)) 2 rfl ?_
      obtain ⟨o2280, eo2280, e⟩ := mm_bind e
      refine mm_T.call (t := 100) (as := [(.ref 18), (.ref 19)]) (f' := (72, [some (.ref 1), some (.int o2274.1), some (.ref 3)], [])) rfl (tX7_begin (d + 105) n 19 (mm_up (mm_up (mm_up o2274.2.1 1 1 0) 1 2 (o2274.2.1 16 11)) 1 3 (o2274.2.1 16 12)) o2274.2.2 3 19 19 w nw (Or.inr rfl) (Or.inl rfl) o2280 eo2280) (fun v h hq => ?_)
      obtain ⟨rfl, rfl⟩ := hq
      refine mm_T.seg (f' := (74, [some (.ref 1), some (.int o2274.1), some (.ref 3)], [(.ref 3), (.ref 1)])) (h' := (107, o2280, o2274.2.2, mm_rf 19 19 19 w nw)) 2 rfl ?_
      refine mm_T.step (f' := (77, [some (.ref 1), some (.int o2274.1), some (.ref 3)], [])) (h' := (107, o2280, o2274.2.2, mm_up (mm_rf 19 19 19 w nw) 1 4 3)) rfl ?_
      rw [mm_rf_sp]
      refine mm_T.seg (f' := (81, [some (.ref 1), some (.int o2274.1), some (.ref 3)], [(.ref 33)])) (h' := (107, o2280, o2274.2.2, mm_rf 19 3 19 w nw)) 2 rfl ?_
      obtain ⟨g415, hg415⟩ : ∃ z, fX2_forgetActs o2280 = z := ⟨_, rfl⟩
      try rw [hg415] at e
      refine mm_T.call (t := 15) (as := [(.ref 33)]) (f' := (84, [some (.ref 1), some (.int o2274.1), some (.ref 3)], [])) rfl (tX2_forgetActs (d + 107) o2280 o2274.2.2 19 3 19 w nw g415 hg415) (fun v h hq => ?_)
      obtain ⟨rfl, rfl⟩ := hq
      refine mm_T.seg (f' := (88, [some (.ref 1), some (.int o2274.1), some (.ref 3)], [(.ref 33)])) (h' := (107, g415, o2274.2.2, mm_rf 19 3 19 w nw)) 2 rfl ?_
      obtain ⟨g416, hg416⟩ : ∃ z, fX2_emptyBoxes g415 = z := ⟨_, rfl⟩
      try rw [hg416] at e
      refine mm_T.call (t := 19) (as := [(.ref 33)]) (f' := (91, [some (.ref 1), some (.int o2274.1), some (.ref 3)], [])) rfl (tX2_emptyBoxes (d + 107) g415 o2274.2.2 19 3 19 w nw g416 hg416) (fun v h hq => ?_)
      obtain ⟨rfl, rfl⟩ := hq
      refine mm_T.seg (f' := (95, [some (.ref 1), some (.int o2274.1), some (.ref 3)], [(.ref 35)])) (h' := (107, g416, o2274.2.2, mm_rf 19 3 19 w nw)) 2 rfl ?_
      obtain ⟨g417, hg417⟩ : ∃ z, fX3_clear g416 = z := ⟨_, rfl⟩
      try rw [hg417] at e
      refine mm_T.call (t := 23) (as := [(.ref 35)]) (f' := (98, [some (.ref 1), some (.int o2274.1), some (.ref 3)], [])) rfl (tX3_clear (d + 107) g416 o2274.2.2 19 3 19 w nw g417 hg417) (fun v h hq => ?_)
      obtain ⟨rfl, rfl⟩ := hq
      refine mm_T.seg (f' := (102, [some (.ref 1), some (.int o2274.1), some (.ref 3)], [(.ref 54)])) (h' := (107, g417, o2274.2.2, mm_rf 19 3 19 w nw)) 2 rfl ?_
      obtain ⟨g418, hg418⟩ : ∃ z, fX10_forget g417 = z := ⟨_, rfl⟩
      try rw [hg418] at e
      refine mm_T.call (t := 140) (as := [(.ref 54)]) (f' := (105, [some (.ref 1), some (.int o2274.1), some (.ref 3)], [])) rfl (tX10_forget (d + 107) g417 o2274.2.2 19 3 19 w nw g418 hg418) (fun v h hq => ?_)
      obtain ⟨rfl, rfl⟩ := hq
      refine mm_T.seg (f' := (109, [some (.ref 1), some (.int o2274.1), some (.ref 3)], [(.ref 18)])) (h' := (107, g418, o2274.2.2, mm_rf 19 3 19 w nw)) 2 rfl ?_
      refine mm_T.seg (f' := (115, [some (.ref 1), some (.int o2274.1), some (.ref 3)], [(.int (g418 19 4))])) (h' := (107, g418, o2274.2.2, mm_rf 19 3 19 w nw)) 2 rfl ?_
      cases e
      exact mm_T.ret rfl ⟨rfl, rfl⟩
  · unfold fX11_river at e
    refine mm_T.seg (f' := (4, [some (.ref 1), none, none], [(.ref 16)])) (h' := (107, I, J, mm_rf 19 3 3 w nw)) 2 rfl ?_
    refine mm_T.seg (f' := (8, [some (.ref 1), none, none], [(.ref 2), (.ref 16)])) (h' := (107, I, J, mm_rf 19 3 3 w nw)) 2 rfl ?_
    refine mm_T.seg (f' := (16, [some (.ref 1), none, none], [(.ref 3), (.int (I 1 1)), (.ref 2), (.ref 16)])) (h' := (107, I, J, mm_rf 19 3 3 w nw)) 4 rfl ?_
    obtain ⟨o2274, eo2274, e⟩ := mm_bind e
    refine mm_T.call (t := 29) (as := [(.ref 16), (.ref 2), (.int (I 1 1)), (.ref 3)]) (f' := (19, [some (.ref 1), none, none], [])) rfl (tX4_read_2 (d + 0) n (I 1 1) 3 I J 19 3 3 w nw (Or.inl rfl) (Or.inl rfl) o2274 eo2274) (fun v h hq => ?_)
    obtain ⟨rfl, rfl⟩ := hq
    refine mm_T.seg (f' := (30, [some (.ref 1), some (.int o2274.1), none], [(.ref 16), (.ref 1)])) (h' := (107, (mm_up o2274.2.1 1 1 0), o2274.2.2, mm_rf 19 3 3 w nw)) 7 rfl ?_
    refine mm_T.seg (f' := (41, [some (.ref 1), some (.int o2274.1), none], [(.ref 16), (.ref 1)])) (h' := (107, (mm_up (mm_up o2274.2.1 1 1 0) 1 2 (o2274.2.1 16 11)), o2274.2.2, mm_rf 19 3 3 w nw)) 5 rfl ?_
    refine mm_T.seg (f' := (48, [some (.ref 1), some (.int o2274.1), none], [(.int o2274.1)])) (h' := (107, (mm_up (mm_up (mm_up o2274.2.1 1 1 0) 1 2 (o2274.2.1 16 11)) 1 3 (o2274.2.1 16 12)), o2274.2.2, mm_rf 19 3 3 w nw)) 3 rfl ?_
    refine mm_T.br (c := o2274.1 = 0) (a := ((51, [some (.ref 1), some (.int o2274.1), none], []), (107, (mm_up (mm_up (mm_up o2274.2.1 1 1 0) 1 2 (o2274.2.1 16 11)) 1 3 (o2274.2.1 16 12)), o2274.2.2, mm_rf 19 3 3 w nw))) (b := ((53, [some (.ref 1), some (.int o2274.1), none], []), (107, (mm_up (mm_up (mm_up o2274.2.1 1 1 0) 1 2 (o2274.2.1 16 11)) 1 3 (o2274.2.1 16 12)), o2274.2.2, mm_rf 19 3 3 w nw))) rfl (fun h2275 => ?_) (fun h2275 => ?_)
    · rw [if_pos h2275] at e
      refine mm_T.seg (f' := (52, [some (.ref 1), some (.int o2274.1), none], [(.int (-1))])) (h' := (107, (mm_up (mm_up (mm_up o2274.2.1 1 1 0) 1 2 (o2274.2.1 16 11)) 1 3 (o2274.2.1 16 12)), o2274.2.2, mm_rf 19 3 3 w nw)) 1 rfl ?_
      cases e
      exact mm_T.ret rfl ⟨rfl, rfl⟩
    · rw [if_neg h2275] at e
      refine mm_T.seg (f' := (57, [some (.ref 1), some (.int o2274.1), none], [(.ref 18)])) (h' := (107, (mm_up (mm_up (mm_up o2274.2.1 1 1 0) 1 2 (o2274.2.1 16 11)) 1 3 (o2274.2.1 16 12)), o2274.2.2, mm_rf 19 3 3 w nw)) 2 rfl ?_
      refine mm_T.seg (f' := (65, [some (.ref 1), some (.int o2274.1), some (.ref 19)], [(.ref 18)])) (h' := (107, (mm_up (mm_up (mm_up o2274.2.1 1 1 0) 1 2 (o2274.2.1 16 11)) 1 3 (o2274.2.1 16 12)), o2274.2.2, mm_rf 19 3 3 w nw)) 4 rfl ?_
      refine mm_T.seg (f' := (69, [some (.ref 1), some (.int o2274.1), some (.ref 19)], [(.ref 3), (.ref 18)])) (h' := (107, (mm_up (mm_up (mm_up o2274.2.1 1 1 0) 1 2 (o2274.2.1 16 11)) 1 3 (o2274.2.1 16 12)), o2274.2.2, mm_rf 19 3 3 w nw)) 2 rfl ?_
      obtain ⟨o2280, eo2280, e⟩ := mm_bind e
      refine mm_T.call (t := 100) (as := [(.ref 18), (.ref 3)]) (f' := (72, [some (.ref 1), some (.int o2274.1), some (.ref 19)], [])) rfl (tX7_begin (d + 105) n 3 (mm_up (mm_up (mm_up o2274.2.1 1 1 0) 1 2 (o2274.2.1 16 11)) 1 3 (o2274.2.1 16 12)) o2274.2.2 19 3 3 w nw (Or.inl rfl) (Or.inr rfl) o2280 eo2280) (fun v h hq => ?_)
      obtain ⟨rfl, rfl⟩ := hq
      refine mm_T.seg (f' := (74, [some (.ref 1), some (.int o2274.1), some (.ref 19)], [(.ref 19), (.ref 1)])) (h' := (107, o2280, o2274.2.2, mm_rf 3 3 3 w nw)) 2 rfl ?_
      refine mm_T.step (f' := (77, [some (.ref 1), some (.int o2274.1), some (.ref 19)], [])) (h' := (107, o2280, o2274.2.2, mm_up (mm_rf 3 3 3 w nw) 1 4 19)) rfl ?_
      rw [mm_rf_sp]
      refine mm_T.seg (f' := (81, [some (.ref 1), some (.int o2274.1), some (.ref 19)], [(.ref 33)])) (h' := (107, o2280, o2274.2.2, mm_rf 3 19 3 w nw)) 2 rfl ?_
      obtain ⟨g415, hg415⟩ : ∃ z, fX2_forgetActs o2280 = z := ⟨_, rfl⟩
      try rw [hg415] at e
      refine mm_T.call (t := 15) (as := [(.ref 33)]) (f' := (84, [some (.ref 1), some (.int o2274.1), some (.ref 19)], [])) rfl (tX2_forgetActs (d + 107) o2280 o2274.2.2 3 19 3 w nw g415 hg415) (fun v h hq => ?_)
      obtain ⟨rfl, rfl⟩ := hq
      refine mm_T.seg (f' := (88, [some (.ref 1), some (.int o2274.1), some (.ref 19)], [(.ref 33)])) (h' := (107, g415, o2274.2.2, mm_rf 3 19 3 w nw)) 2 rfl ?_
      obtain ⟨g416, hg416⟩ : ∃ z, fX2_emptyBoxes g415 = z := ⟨_, rfl⟩
      try rw [hg416] at e
      refine mm_T.call (t := 19) (as := [(.ref 33)]) (f' := (91, [some (.ref 1), some (.int o2274.1), some (.ref 19)], [])) rfl (tX2_emptyBoxes (d + 107) g415 o2274.2.2 3 19 3 w nw g416 hg416) (fun v h hq => ?_)
      obtain ⟨rfl, rfl⟩ := hq
      refine mm_T.seg (f' := (95, [some (.ref 1), some (.int o2274.1), some (.ref 19)], [(.ref 35)])) (h' := (107, g416, o2274.2.2, mm_rf 3 19 3 w nw)) 2 rfl ?_
      obtain ⟨g417, hg417⟩ : ∃ z, fX3_clear g416 = z := ⟨_, rfl⟩
      try rw [hg417] at e
      refine mm_T.call (t := 23) (as := [(.ref 35)]) (f' := (98, [some (.ref 1), some (.int o2274.1), some (.ref 19)], [])) rfl (tX3_clear (d + 107) g416 o2274.2.2 3 19 3 w nw g417 hg417) (fun v h hq => ?_)
      obtain ⟨rfl, rfl⟩ := hq
      refine mm_T.seg (f' := (102, [some (.ref 1), some (.int o2274.1), some (.ref 19)], [(.ref 54)])) (h' := (107, g417, o2274.2.2, mm_rf 3 19 3 w nw)) 2 rfl ?_
      obtain ⟨g418, hg418⟩ : ∃ z, fX10_forget g417 = z := ⟨_, rfl⟩
      try rw [hg418] at e
      refine mm_T.call (t := 140) (as := [(.ref 54)]) (f' := (105, [some (.ref 1), some (.int o2274.1), some (.ref 19)], [])) rfl (tX10_forget (d + 107) g417 o2274.2.2 3 19 3 w nw g418 hg418) (fun v h hq => ?_)
      obtain ⟨rfl, rfl⟩ := hq
      refine mm_T.seg (f' := (109, [some (.ref 1), some (.int o2274.1), some (.ref 19)], [(.ref 18)])) (h' := (107, g418, o2274.2.2, mm_rf 3 19 3 w nw)) 2 rfl ?_
      refine mm_T.seg (f' := (115, [some (.ref 1), some (.int o2274.1), some (.ref 19)], [(.int (g418 3 4))])) (h' := (107, g418, o2274.2.2, mm_rf 3 19 3 w nw)) 2 rfl ?_
      cases e
      exact mm_T.ret rfl ⟨rfl, rfl⟩
  · unfold fX11_river at e
    refine mm_T.seg (f' := (4, [some (.ref 1), none, none], [(.ref 16)])) (h' := (107, I, J, mm_rf 19 3 19 w nw)) 2 rfl ?_
    refine mm_T.seg (f' := (8, [some (.ref 1), none, none], [(.ref 2), (.ref 16)])) (h' := (107, I, J, mm_rf 19 3 19 w nw)) 2 rfl ?_
    refine mm_T.seg (f' := (16, [some (.ref 1), none, none], [(.ref 3), (.int (I 1 1)), (.ref 2), (.ref 16)])) (h' := (107, I, J, mm_rf 19 3 19 w nw)) 4 rfl ?_
    obtain ⟨o2274, eo2274, e⟩ := mm_bind e
    refine mm_T.call (t := 29) (as := [(.ref 16), (.ref 2), (.int (I 1 1)), (.ref 3)]) (f' := (19, [some (.ref 1), none, none], [])) rfl (tX4_read_2 (d + 0) n (I 1 1) 3 I J 19 3 19 w nw (Or.inl rfl) (Or.inr rfl) o2274 eo2274) (fun v h hq => ?_)
    obtain ⟨rfl, rfl⟩ := hq
    refine mm_T.seg (f' := (30, [some (.ref 1), some (.int o2274.1), none], [(.ref 16), (.ref 1)])) (h' := (107, (mm_up o2274.2.1 1 1 0), o2274.2.2, mm_rf 19 3 3 w nw)) 7 rfl ?_
    refine mm_T.seg (f' := (41, [some (.ref 1), some (.int o2274.1), none], [(.ref 16), (.ref 1)])) (h' := (107, (mm_up (mm_up o2274.2.1 1 1 0) 1 2 (o2274.2.1 16 11)), o2274.2.2, mm_rf 19 3 3 w nw)) 5 rfl ?_
    refine mm_T.seg (f' := (48, [some (.ref 1), some (.int o2274.1), none], [(.int o2274.1)])) (h' := (107, (mm_up (mm_up (mm_up o2274.2.1 1 1 0) 1 2 (o2274.2.1 16 11)) 1 3 (o2274.2.1 16 12)), o2274.2.2, mm_rf 19 3 3 w nw)) 3 rfl ?_
    refine mm_T.br (c := o2274.1 = 0) (a := ((51, [some (.ref 1), some (.int o2274.1), none], []), (107, (mm_up (mm_up (mm_up o2274.2.1 1 1 0) 1 2 (o2274.2.1 16 11)) 1 3 (o2274.2.1 16 12)), o2274.2.2, mm_rf 19 3 3 w nw))) (b := ((53, [some (.ref 1), some (.int o2274.1), none], []), (107, (mm_up (mm_up (mm_up o2274.2.1 1 1 0) 1 2 (o2274.2.1 16 11)) 1 3 (o2274.2.1 16 12)), o2274.2.2, mm_rf 19 3 3 w nw))) rfl (fun h2275 => ?_) (fun h2275 => ?_)
    · rw [if_pos h2275] at e
      refine mm_T.seg (f' := (52, [some (.ref 1), some (.int o2274.1), none], [(.int (-1))])) (h' := (107, (mm_up (mm_up (mm_up o2274.2.1 1 1 0) 1 2 (o2274.2.1 16 11)) 1 3 (o2274.2.1 16 12)), o2274.2.2, mm_rf 19 3 3 w nw)) 1 rfl ?_
      cases e
      exact mm_T.ret rfl ⟨rfl, rfl⟩
    · rw [if_neg h2275] at e
      refine mm_T.seg (f' := (57, [some (.ref 1), some (.int o2274.1), none], [(.ref 18)])) (h' := (107, (mm_up (mm_up (mm_up o2274.2.1 1 1 0) 1 2 (o2274.2.1 16 11)) 1 3 (o2274.2.1 16 12)), o2274.2.2, mm_rf 19 3 3 w nw)) 2 rfl ?_
      refine mm_T.seg (f' := (65, [some (.ref 1), some (.int o2274.1), some (.ref 19)], [(.ref 18)])) (h' := (107, (mm_up (mm_up (mm_up o2274.2.1 1 1 0) 1 2 (o2274.2.1 16 11)) 1 3 (o2274.2.1 16 12)), o2274.2.2, mm_rf 19 3 3 w nw)) 4 rfl ?_
      refine mm_T.seg (f' := (69, [some (.ref 1), some (.int o2274.1), some (.ref 19)], [(.ref 3), (.ref 18)])) (h' := (107, (mm_up (mm_up (mm_up o2274.2.1 1 1 0) 1 2 (o2274.2.1 16 11)) 1 3 (o2274.2.1 16 12)), o2274.2.2, mm_rf 19 3 3 w nw)) 2 rfl ?_
      obtain ⟨o2280, eo2280, e⟩ := mm_bind e
      refine mm_T.call (t := 100) (as := [(.ref 18), (.ref 3)]) (f' := (72, [some (.ref 1), some (.int o2274.1), some (.ref 19)], [])) rfl (tX7_begin (d + 105) n 3 (mm_up (mm_up (mm_up o2274.2.1 1 1 0) 1 2 (o2274.2.1 16 11)) 1 3 (o2274.2.1 16 12)) o2274.2.2 19 3 3 w nw (Or.inl rfl) (Or.inr rfl) o2280 eo2280) (fun v h hq => ?_)
      obtain ⟨rfl, rfl⟩ := hq
      refine mm_T.seg (f' := (74, [some (.ref 1), some (.int o2274.1), some (.ref 19)], [(.ref 19), (.ref 1)])) (h' := (107, o2280, o2274.2.2, mm_rf 3 3 3 w nw)) 2 rfl ?_
      refine mm_T.step (f' := (77, [some (.ref 1), some (.int o2274.1), some (.ref 19)], [])) (h' := (107, o2280, o2274.2.2, mm_up (mm_rf 3 3 3 w nw) 1 4 19)) rfl ?_
      rw [mm_rf_sp]
      refine mm_T.seg (f' := (81, [some (.ref 1), some (.int o2274.1), some (.ref 19)], [(.ref 33)])) (h' := (107, o2280, o2274.2.2, mm_rf 3 19 3 w nw)) 2 rfl ?_
      obtain ⟨g415, hg415⟩ : ∃ z, fX2_forgetActs o2280 = z := ⟨_, rfl⟩
      try rw [hg415] at e
      refine mm_T.call (t := 15) (as := [(.ref 33)]) (f' := (84, [some (.ref 1), some (.int o2274.1), some (.ref 19)], [])) rfl (tX2_forgetActs (d + 107) o2280 o2274.2.2 3 19 3 w nw g415 hg415) (fun v h hq => ?_)
      obtain ⟨rfl, rfl⟩ := hq
      refine mm_T.seg (f' := (88, [some (.ref 1), some (.int o2274.1), some (.ref 19)], [(.ref 33)])) (h' := (107, g415, o2274.2.2, mm_rf 3 19 3 w nw)) 2 rfl ?_
      obtain ⟨g416, hg416⟩ : ∃ z, fX2_emptyBoxes g415 = z := ⟨_, rfl⟩
      try rw [hg416] at e
      refine mm_T.call (t := 19) (as := [(.ref 33)]) (f' := (91, [some (.ref 1), some (.int o2274.1), some (.ref 19)], [])) rfl (tX2_emptyBoxes (d + 107) g415 o2274.2.2 3 19 3 w nw g416 hg416) (fun v h hq => ?_)
      obtain ⟨rfl, rfl⟩ := hq
      refine mm_T.seg (f' := (95, [some (.ref 1), some (.int o2274.1), some (.ref 19)], [(.ref 35)])) (h' := (107, g416, o2274.2.2, mm_rf 3 19 3 w nw)) 2 rfl ?_
      obtain ⟨g417, hg417⟩ : ∃ z, fX3_clear g416 = z := ⟨_, rfl⟩
      try rw [hg417] at e
      refine mm_T.call (t := 23) (as := [(.ref 35)]) (f' := (98, [some (.ref 1), some (.int o2274.1), some (.ref 19)], [])) rfl (tX3_clear (d + 107) g416 o2274.2.2 3 19 3 w nw g417 hg417) (fun v h hq => ?_)
      obtain ⟨rfl, rfl⟩ := hq
      refine mm_T.seg (f' := (102, [some (.ref 1), some (.int o2274.1), some (.ref 19)], [(.ref 54)])) (h' := (107, g417, o2274.2.2, mm_rf 3 19 3 w nw)) 2 rfl ?_
      obtain ⟨g418, hg418⟩ : ∃ z, fX10_forget g417 = z := ⟨_, rfl⟩
      try rw [hg418] at e
      refine mm_T.call (t := 140) (as := [(.ref 54)]) (f' := (105, [some (.ref 1), some (.int o2274.1), some (.ref 19)], [])) rfl (tX10_forget (d + 107) g417 o2274.2.2 3 19 3 w nw g418 hg418) (fun v h hq => ?_)
      obtain ⟨rfl, rfl⟩ := hq
      refine mm_T.seg (f' := (109, [some (.ref 1), some (.int o2274.1), some (.ref 19)], [(.ref 18)])) (h' := (107, g418, o2274.2.2, mm_rf 3 19 3 w nw)) 2 rfl ?_
      refine mm_T.seg (f' := (115, [some (.ref 1), some (.int o2274.1), some (.ref 19)], [(.int (g418 3 4))])) (h' := (107, g418, o2274.2.2, mm_rf 3 19 3 w nw)) 2 rfl ?_
      cases e
      exact mm_T.ret rfl ⟨rfl, rfl⟩
  · unfold fX11_river at e
    refine mm_T.seg (f' := (4, [some (.ref 1), none, none], [(.ref 16)])) (h' := (107, I, J, mm_rf 19 19 3 w nw)) 2 rfl ?_
    refine mm_T.seg (f' := (8, [some (.ref 1), none, none], [(.ref 2), (.ref 16)])) (h' := (107, I, J, mm_rf 19 19 3 w nw)) 2 rfl ?_
    refine mm_T.seg (f' := (16, [some (.ref 1), none, none], [(.ref 19), (.int (I 1 1)), (.ref 2), (.ref 16)])) (h' := (107, I, J, mm_rf 19 19 3 w nw)) 4 rfl ?_
    obtain ⟨o2274, eo2274, e⟩ := mm_bind e
    refine mm_T.call (t := 29) (as := [(.ref 16), (.ref 2), (.int (I 1 1)), (.ref 19)]) (f' := (19, [some (.ref 1), none, none], [])) rfl (tX4_read_2 (d + 0) n (I 1 1) 19 I J 19 19 3 w nw (Or.inr rfl) (Or.inl rfl) o2274 eo2274) (fun v h hq => ?_)
    obtain ⟨rfl, rfl⟩ := hq
    refine mm_T.seg (f' := (30, [some (.ref 1), some (.int o2274.1), none], [(.ref 16), (.ref 1)])) (h' := (107, (mm_up o2274.2.1 1 1 0), o2274.2.2, mm_rf 19 19 19 w nw)) 7 rfl ?_
    refine mm_T.seg (f' := (41, [some (.ref 1), some (.int o2274.1), none], [(.ref 16), (.ref 1)])) (h' := (107, (mm_up (mm_up o2274.2.1 1 1 0) 1 2 (o2274.2.1 16 11)), o2274.2.2, mm_rf 19 19 19 w nw)) 5 rfl ?_
    refine mm_T.seg (f' := (48, [some (.ref 1), some (.int o2274.1), none], [(.int o2274.1)])) (h' := (107, (mm_up (mm_up (mm_up o2274.2.1 1 1 0) 1 2 (o2274.2.1 16 11)) 1 3 (o2274.2.1 16 12)), o2274.2.2, mm_rf 19 19 19 w nw)) 3 rfl ?_
    refine mm_T.br (c := o2274.1 = 0) (a := ((51, [some (.ref 1), some (.int o2274.1), none], []), (107, (mm_up (mm_up (mm_up o2274.2.1 1 1 0) 1 2 (o2274.2.1 16 11)) 1 3 (o2274.2.1 16 12)), o2274.2.2, mm_rf 19 19 19 w nw))) (b := ((53, [some (.ref 1), some (.int o2274.1), none], []), (107, (mm_up (mm_up (mm_up o2274.2.1 1 1 0) 1 2 (o2274.2.1 16 11)) 1 3 (o2274.2.1 16 12)), o2274.2.2, mm_rf 19 19 19 w nw))) rfl (fun h2275 => ?_) (fun h2275 => ?_)
    · rw [if_pos h2275] at e
      refine mm_T.seg (f' := (52, [some (.ref 1), some (.int o2274.1), none], [(.int (-1))])) (h' := (107, (mm_up (mm_up (mm_up o2274.2.1 1 1 0) 1 2 (o2274.2.1 16 11)) 1 3 (o2274.2.1 16 12)), o2274.2.2, mm_rf 19 19 19 w nw)) 1 rfl ?_
      cases e
      exact mm_T.ret rfl ⟨rfl, rfl⟩
    · rw [if_neg h2275] at e
      refine mm_T.seg (f' := (57, [some (.ref 1), some (.int o2274.1), none], [(.ref 18)])) (h' := (107, (mm_up (mm_up (mm_up o2274.2.1 1 1 0) 1 2 (o2274.2.1 16 11)) 1 3 (o2274.2.1 16 12)), o2274.2.2, mm_rf 19 19 19 w nw)) 2 rfl ?_
      refine mm_T.seg (f' := (65, [some (.ref 1), some (.int o2274.1), some (.ref 19)], [(.ref 18)])) (h' := (107, (mm_up (mm_up (mm_up o2274.2.1 1 1 0) 1 2 (o2274.2.1 16 11)) 1 3 (o2274.2.1 16 12)), o2274.2.2, mm_rf 19 19 19 w nw)) 4 rfl ?_
      refine mm_T.seg (f' := (69, [some (.ref 1), some (.int o2274.1), some (.ref 19)], [(.ref 19), (.ref 18)])) (h' := (107, (mm_up (mm_up (mm_up o2274.2.1 1 1 0) 1 2 (o2274.2.1 16 11)) 1 3 (o2274.2.1 16 12)), o2274.2.2, mm_rf 19 19 19 w nw)) 2 rfl ?_
      obtain ⟨o2280, eo2280, e⟩ := mm_bind e
      refine mm_T.call (t := 100) (as := [(.ref 18), (.ref 19)]) (f' := (72, [some (.ref 1), some (.int o2274.1), some (.ref 19)], [])) rfl (tX7_begin (d + 105) n 19 (mm_up (mm_up (mm_up o2274.2.1 1 1 0) 1 2 (o2274.2.1 16 11)) 1 3 (o2274.2.1 16 12)) o2274.2.2 19 19 19 w nw (Or.inr rfl) (Or.inr rfl) o2280 eo2280) (fun v h hq => ?_)
      obtain ⟨rfl, rfl⟩ := hq
      refine mm_T.seg (f' := (74, [some (.ref 1), some (.int o2274.1), some (.ref 19)], [(.ref 19), (.ref 1)])) (h' := (107, o2280, o2274.2.2, mm_rf 19 19 19 w nw)) 2 rfl ?_
      refine mm_T.step (f' := (77, [some (.ref 1), some (.int o2274.1), some (.ref 19)], [])) (h' := (107, o2280, o2274.2.2, mm_up (mm_rf 19 19 19 w nw) 1 4 19)) rfl ?_
      rw [mm_rf_sp]
      refine mm_T.seg (f' := (81, [some (.ref 1), some (.int o2274.1), some (.ref 19)], [(.ref 33)])) (h' := (107, o2280, o2274.2.2, mm_rf 19 19 19 w nw)) 2 rfl ?_
      obtain ⟨g415, hg415⟩ : ∃ z, fX2_forgetActs o2280 = z := ⟨_, rfl⟩
      try rw [hg415] at e
      refine mm_T.call (t := 15) (as := [(.ref 33)]) (f' := (84, [some (.ref 1), some (.int o2274.1), some (.ref 19)], [])) rfl (tX2_forgetActs (d + 107) o2280 o2274.2.2 19 19 19 w nw g415 hg415) (fun v h hq => ?_)
      obtain ⟨rfl, rfl⟩ := hq
      refine mm_T.seg (f' := (88, [some (.ref 1), some (.int o2274.1), some (.ref 19)], [(.ref 33)])) (h' := (107, g415, o2274.2.2, mm_rf 19 19 19 w nw)) 2 rfl ?_
      obtain ⟨g416, hg416⟩ : ∃ z, fX2_emptyBoxes g415 = z := ⟨_, rfl⟩
      try rw [hg416] at e
      refine mm_T.call (t := 19) (as := [(.ref 33)]) (f' := (91, [some (.ref 1), some (.int o2274.1), some (.ref 19)], [])) rfl (tX2_emptyBoxes (d + 107) g415 o2274.2.2 19 19 19 w nw g416 hg416) (fun v h hq => ?_)
      obtain ⟨rfl, rfl⟩ := hq
      refine mm_T.seg (f' := (95, [some (.ref 1), some (.int o2274.1), some (.ref 19)], [(.ref 35)])) (h' := (107, g416, o2274.2.2, mm_rf 19 19 19 w nw)) 2 rfl ?_
      obtain ⟨g417, hg417⟩ : ∃ z, fX3_clear g416 = z := ⟨_, rfl⟩
      try rw [hg417] at e
      refine mm_T.call (t := 23) (as := [(.ref 35)]) (f' := (98, [some (.ref 1), some (.int o2274.1), some (.ref 19)], [])) rfl (tX3_clear (d + 107) g416 o2274.2.2 19 19 19 w nw g417 hg417) (fun v h hq => ?_)
      obtain ⟨rfl, rfl⟩ := hq
      refine mm_T.seg (f' := (102, [some (.ref 1), some (.int o2274.1), some (.ref 19)], [(.ref 54)])) (h' := (107, g417, o2274.2.2, mm_rf 19 19 19 w nw)) 2 rfl ?_
      obtain ⟨g418, hg418⟩ : ∃ z, fX10_forget g417 = z := ⟨_, rfl⟩
      try rw [hg418] at e
      refine mm_T.call (t := 140) (as := [(.ref 54)]) (f' := (105, [some (.ref 1), some (.int o2274.1), some (.ref 19)], [])) rfl (tX10_forget (d + 107) g417 o2274.2.2 19 19 19 w nw g418 hg418) (fun v h hq => ?_)
      obtain ⟨rfl, rfl⟩ := hq
      refine mm_T.seg (f' := (109, [some (.ref 1), some (.int o2274.1), some (.ref 19)], [(.ref 18)])) (h' := (107, g418, o2274.2.2, mm_rf 19 19 19 w nw)) 2 rfl ?_
      refine mm_T.seg (f' := (115, [some (.ref 1), some (.int o2274.1), some (.ref 19)], [(.int (g418 19 4))])) (h' := (107, g418, o2274.2.2, mm_rf 19 19 19 w nw)) 2 rfl ?_
      cases e
      exact mm_T.ret rfl ⟨rfl, rfl⟩
  · unfold fX11_river at e
    refine mm_T.seg (f' := (4, [some (.ref 1), none, none], [(.ref 16)])) (h' := (107, I, J, mm_rf 19 19 19 w nw)) 2 rfl ?_
    refine mm_T.seg (f' := (8, [some (.ref 1), none, none], [(.ref 2), (.ref 16)])) (h' := (107, I, J, mm_rf 19 19 19 w nw)) 2 rfl ?_
    refine mm_T.seg (f' := (16, [some (.ref 1), none, none], [(.ref 19), (.int (I 1 1)), (.ref 2), (.ref 16)])) (h' := (107, I, J, mm_rf 19 19 19 w nw)) 4 rfl ?_
    obtain ⟨o2274, eo2274, e⟩ := mm_bind e
    refine mm_T.call (t := 29) (as := [(.ref 16), (.ref 2), (.int (I 1 1)), (.ref 19)]) (f' := (19, [some (.ref 1), none, none], [])) rfl (tX4_read_2 (d + 0) n (I 1 1) 19 I J 19 19 19 w nw (Or.inr rfl) (Or.inr rfl) o2274 eo2274) (fun v h hq => ?_)
    obtain ⟨rfl, rfl⟩ := hq
    refine mm_T.seg (f' := (30, [some (.ref 1), some (.int o2274.1), none], [(.ref 16), (.ref 1)])) (h' := (107, (mm_up o2274.2.1 1 1 0), o2274.2.2, mm_rf 19 19 19 w nw)) 7 rfl ?_
    refine mm_T.seg (f' := (41, [some (.ref 1), some (.int o2274.1), none], [(.ref 16), (.ref 1)])) (h' := (107, (mm_up (mm_up o2274.2.1 1 1 0) 1 2 (o2274.2.1 16 11)), o2274.2.2, mm_rf 19 19 19 w nw)) 5 rfl ?_
    refine mm_T.seg (f' := (48, [some (.ref 1), some (.int o2274.1), none], [(.int o2274.1)])) (h' := (107, (mm_up (mm_up (mm_up o2274.2.1 1 1 0) 1 2 (o2274.2.1 16 11)) 1 3 (o2274.2.1 16 12)), o2274.2.2, mm_rf 19 19 19 w nw)) 3 rfl ?_
    refine mm_T.br (c := o2274.1 = 0) (a := ((51, [some (.ref 1), some (.int o2274.1), none], []), (107, (mm_up (mm_up (mm_up o2274.2.1 1 1 0) 1 2 (o2274.2.1 16 11)) 1 3 (o2274.2.1 16 12)), o2274.2.2, mm_rf 19 19 19 w nw))) (b := ((53, [some (.ref 1), some (.int o2274.1), none], []), (107, (mm_up (mm_up (mm_up o2274.2.1 1 1 0) 1 2 (o2274.2.1 16 11)) 1 3 (o2274.2.1 16 12)), o2274.2.2, mm_rf 19 19 19 w nw))) rfl (fun h2275 => ?_) (fun h2275 => ?_)
    · rw [if_pos h2275] at e
      refine mm_T.seg (f' := (52, [some (.ref 1), some (.int o2274.1), none], [(.int (-1))])) (h' := (107, (mm_up (mm_up (mm_up o2274.2.1 1 1 0) 1 2 (o2274.2.1 16 11)) 1 3 (o2274.2.1 16 12)), o2274.2.2, mm_rf 19 19 19 w nw)) 1 rfl ?_
      cases e
      exact mm_T.ret rfl ⟨rfl, rfl⟩
    · rw [if_neg h2275] at e
      refine mm_T.seg (f' := (57, [some (.ref 1), some (.int o2274.1), none], [(.ref 18)])) (h' := (107, (mm_up (mm_up (mm_up o2274.2.1 1 1 0) 1 2 (o2274.2.1 16 11)) 1 3 (o2274.2.1 16 12)), o2274.2.2, mm_rf 19 19 19 w nw)) 2 rfl ?_
      refine mm_T.seg (f' := (65, [some (.ref 1), some (.int o2274.1), some (.ref 19)], [(.ref 18)])) (h' := (107, (mm_up (mm_up (mm_up o2274.2.1 1 1 0) 1 2 (o2274.2.1 16 11)) 1 3 (o2274.2.1 16 12)), o2274.2.2, mm_rf 19 19 19 w nw)) 4 rfl ?_
      refine mm_T.seg (f' := (69, [some (.ref 1), some (.int o2274.1), some (.ref 19)], [(.ref 19), (.ref 18)])) (h' := (107, (mm_up (mm_up (mm_up o2274.2.1 1 1 0) 1 2 (o2274.2.1 16 11)) 1 3 (o2274.2.1 16 12)), o2274.2.2, mm_rf 19 19 19 w nw)) 2 rfl ?_
      obtain ⟨o2280, eo2280, e⟩ := mm_bind e
      refine mm_T.call (t := 100) (as := [(.ref 18), (.ref 19)]) (f' := (72, [some (.ref 1), some (.int o2274.1), some (.ref 19)], [])) rfl (tX7_begin (d + 105) n 19 (mm_up (mm_up (mm_up o2274.2.1 1 1 0) 1 2 (o2274.2.1 16 11)) 1 3 (o2274.2.1 16 12)) o2274.2.2 19 19 19 w nw (Or.inr rfl) (Or.inr rfl) o2280 eo2280) (fun v h hq => ?_)
      obtain ⟨rfl, rfl⟩ := hq
      refine mm_T.seg (f' := (74, [some (.ref 1), some (.int o2274.1), some (.ref 19)], [(.ref 19), (.ref 1)])) (h' := (107, o2280, o2274.2.2, mm_rf 19 19 19 w nw)) 2 rfl ?_
      refine mm_T.step (f' := (77, [some (.ref 1), some (.int o2274.1), some (.ref 19)], [])) (h' := (107, o2280, o2274.2.2, mm_up (mm_rf 19 19 19 w nw) 1 4 19)) rfl ?_
      rw [mm_rf_sp]
      refine mm_T.seg (f' := (81, [some (.ref 1), some (.int o2274.1), some (.ref 19)], [(.ref 33)])) (h' := (107, o2280, o2274.2.2, mm_rf 19 19 19 w nw)) 2 rfl ?_
      obtain ⟨g415, hg415⟩ : ∃ z, fX2_forgetActs o2280 = z := ⟨_, rfl⟩
      try rw [hg415] at e
      refine mm_T.call (t := 15) (as := [(.ref 33)]) (f' := (84, [some (.ref 1), some (.int o2274.1), some (.ref 19)], [])) rfl (tX2_forgetActs (d + 107) o2280 o2274.2.2 19 19 19 w nw g415 hg415) (fun v h hq => ?_)
      obtain ⟨rfl, rfl⟩ := hq
      refine mm_T.seg (f' := (88, [some (.ref 1), some (.int o2274.1), some (.ref 19)], [(.ref 33)])) (h' := (107, g415, o2274.2.2, mm_rf 19 19 19 w nw)) 2 rfl ?_
      obtain ⟨g416, hg416⟩ : ∃ z, fX2_emptyBoxes g415 = z := ⟨_, rfl⟩
      try rw [hg416] at e
      refine mm_T.call (t := 19) (as := [(.ref 33)]) (f' := (91, [some (.ref 1), some (.int o2274.1), some (.ref 19)], [])) rfl (tX2_emptyBoxes (d + 107) g415 o2274.2.2 19 19 19 w nw g416 hg416) (fun v h hq => ?_)
      obtain ⟨rfl, rfl⟩ := hq
      refine mm_T.seg (f' := (95, [some (.ref 1), some (.int o2274.1), some (.ref 19)], [(.ref 35)])) (h' := (107, g416, o2274.2.2, mm_rf 19 19 19 w nw)) 2 rfl ?_
      obtain ⟨g417, hg417⟩ : ∃ z, fX3_clear g416 = z := ⟨_, rfl⟩
      try rw [hg417] at e
      refine mm_T.call (t := 23) (as := [(.ref 35)]) (f' := (98, [some (.ref 1), some (.int o2274.1), some (.ref 19)], [])) rfl (tX3_clear (d + 107) g416 o2274.2.2 19 19 19 w nw g417 hg417) (fun v h hq => ?_)
      obtain ⟨rfl, rfl⟩ := hq
      refine mm_T.seg (f' := (102, [some (.ref 1), some (.int o2274.1), some (.ref 19)], [(.ref 54)])) (h' := (107, g417, o2274.2.2, mm_rf 19 19 19 w nw)) 2 rfl ?_
      obtain ⟨g418, hg418⟩ : ∃ z, fX10_forget g417 = z := ⟨_, rfl⟩
      try rw [hg418] at e
      refine mm_T.call (t := 140) (as := [(.ref 54)]) (f' := (105, [some (.ref 1), some (.int o2274.1), some (.ref 19)], [])) rfl (tX10_forget (d + 107) g417 o2274.2.2 19 19 19 w nw g418 hg418) (fun v h hq => ?_)
      obtain ⟨rfl, rfl⟩ := hq
      refine mm_T.seg (f' := (109, [some (.ref 1), some (.int o2274.1), some (.ref 19)], [(.ref 18)])) (h' := (107, g418, o2274.2.2, mm_rf 19 19 19 w nw)) 2 rfl ?_
      refine mm_T.seg (f' := (115, [some (.ref 1), some (.int o2274.1), some (.ref 19)], [(.int (g418 19 4))])) (h' := (107, g418, o2274.2.2, mm_rf 19 19 19 w nw)) 2 rfl ?_
      cases e
      exact mm_T.ret rfl ⟨rfl, rfl⟩
set_option maxRecDepth 100000 in
set_option maxHeartbeats 4000000 in
theorem tX11_fault (d : Nat) (x1 : Int32) (I : Nat → Nat → Int32) (J : Nat → Nat → Int64) (rv sp rr w nw : Nat) (out : Int32) (e : fX11_fault x1 I = out) : mm_T none (d + 0) 163 (mm_ent 163 [(.ref 1), (.int x1)]) (107, I, J, mm_rf rv sp rr w nw) (fun v h => v = some (.int out) ∧ h = (107, I, J, mm_rf rv sp rr w nw)) := by
  unfold fX11_fault at e
  refine mm_T.seg (f' := (1, [some (.ref 1), some (.int x1)], [(.int x1)])) (h' := (107, I, J, mm_rf rv sp rr w nw)) 1 rfl ?_
  by_cases h2281 : x1 = 0
  · rw [if_pos h2281] at e
    refine mm_T.step (f' := (28, [some (.ref 1), some (.int x1)], [])) (h' := (107, I, J, mm_rf rv sp rr w nw)) (by first | (rw [h2281]; rfl) | exact absurd h2281 (by decide)) ?_
    refine mm_T.seg (f' := (32, [some (.ref 1), some (.int x1)], [(.int (I 1 2))])) (h' := (107, I, J, mm_rf rv sp rr w nw)) 2 rfl ?_
    cases e
    exact mm_T.ret rfl ⟨rfl, rfl⟩
  · rw [if_neg h2281] at e
    by_cases h2282 : x1 = 1
    · rw [if_pos h2282] at e
      refine mm_T.step (f' := (33, [some (.ref 1), some (.int x1)], [])) (h' := (107, I, J, mm_rf rv sp rr w nw)) (by first | (rw [h2282]; rfl) | exact absurd h2282 (by decide)) ?_
      refine mm_T.seg (f' := (37, [some (.ref 1), some (.int x1)], [(.int (I 1 3))])) (h' := (107, I, J, mm_rf rv sp rr w nw)) 2 rfl ?_
      cases e
      exact mm_T.ret rfl ⟨rfl, rfl⟩
    · rw [if_neg h2282] at e
      refine mm_T.step (f' := (38, [some (.ref 1), some (.int x1)], [])) (h' := (107, I, J, mm_rf rv sp rr w nw)) (by show mm_go (mm_tg 1 (Op.lookupswitch.offset [(0, 27), (1, 32)] 37 x1.toInt)) _ _ _ = _; rw [lv_osw (a := 0) h2281 (by decide), lv_osw (a := 1) h2282 (by decide)]; rfl) ?_
      refine mm_T.seg (f' := (39, [some (.ref 1), some (.int x1)], [(.int (-1))])) (h' := (107, I, J, mm_rf rv sp rr w nw)) 1 rfl ?_
      cases e
      exact mm_T.ret rfl ⟨rfl, rfl⟩
set_option maxRecDepth 100000 in
set_option maxHeartbeats 4000000 in
theorem tX11_board (d n : Nat) (x1 : Int32) (x2 : Int32) (I : Nat → Nat → Int32) (J : Nat → Nat → Int64) (rv sp rr w nw : Nat) (hrv : rv = 3 ∨ rv = 19) (out : Int32) (e : fX11_board n x1 x2 I rv = some out) : mm_T none (d + 3) 164 (mm_ent 164 [(.ref 1), (.int x1), (.int x2)]) (107, I, J, mm_rf rv sp rr w nw) (fun v h => v = some (.int out) ∧ h = (107, I, J, mm_rf rv sp rr w nw)) := by
  rcases hrv with rfl | rfl
  · unfold fX11_board at e
    refine mm_T.seg (f' := (4, [some (.ref 1), some (.int x1), some (.int x2)], [(.ref 18)])) (h' := (107, I, J, mm_rf 3 sp rr w nw)) 2 rfl ?_
    refine mm_T.seg (f' := (5, [some (.ref 1), some (.int x1), some (.int x2)], [(.int x1), (.ref 18)])) (h' := (107, I, J, mm_rf 3 sp rr w nw)) 1 rfl ?_
    obtain ⟨g419, hg419⟩ : ∃ z, fX7_isBoard x1 I 3 = z := ⟨_, rfl⟩
    try rw [hg419] at e
    refine mm_T.call (t := 101) (as := [(.ref 18), (.int x1)]) (f' := (8, [some (.ref 1), some (.int x1), some (.int x2)], [])) rfl (tX7_isBoard (d + 2) x1 I J 3 sp rr w nw (Or.inl rfl) g419 hg419) (fun v h hq => ?_)
    obtain ⟨rfl, rfl⟩ := hq
    refine mm_T.br (c := g419 = 0) (a := ((11, [some (.ref 1), some (.int x1), some (.int x2)], []), (107, I, J, mm_rf 3 sp rr w nw))) (b := ((13, [some (.ref 1), some (.int x1), some (.int x2)], []), (107, I, J, mm_rf 3 sp rr w nw))) rfl (fun h2283 => ?_) (fun h2283 => ?_)
    · rw [if_pos h2283] at e
      refine mm_T.seg (f' := (12, [some (.ref 1), some (.int x1), some (.int x2)], [(.int (-1))])) (h' := (107, I, J, mm_rf 3 sp rr w nw)) 1 rfl ?_
      cases e
      exact mm_T.ret rfl ⟨rfl, rfl⟩
    · rw [if_neg h2283] at e
      refine mm_T.seg (f' := (14, [some (.ref 1), some (.int x1), some (.int x2)], [(.int x2)])) (h' := (107, I, J, mm_rf 3 sp rr w nw)) 1 rfl ?_
      by_cases h2284 : x2 = 0
      · rw [if_pos h2284] at e
        refine mm_T.step (f' := (64, [some (.ref 1), some (.int x1), some (.int x2)], [])) (h' := (107, I, J, mm_rf 3 sp rr w nw)) (by first | (rw [h2284]; rfl) | exact absurd h2284 (by decide)) ?_
        refine mm_T.seg (f' := (68, [some (.ref 1), some (.int x1), some (.int x2)], [(.ref 18)])) (h' := (107, I, J, mm_rf 3 sp rr w nw)) 2 rfl ?_
        refine mm_T.seg (f' := (69, [some (.ref 1), some (.int x1), some (.int x2)], [(.int x1), (.ref 18)])) (h' := (107, I, J, mm_rf 3 sp rr w nw)) 1 rfl ?_
        obtain ⟨g420, hg420⟩ : ∃ z, fX7_columnOf x1 I = z := ⟨_, rfl⟩
        try rw [hg420] at e
        refine mm_T.call (t := 105) (as := [(.ref 18), (.int x1)]) (f' := (72, [some (.ref 1), some (.int x1), some (.int x2)], [])) rfl (tX7_columnOf (d + 0) x1 I J 3 sp rr w nw g420 hg420) (fun v h hq => ?_)
        obtain ⟨rfl, rfl⟩ := hq
        cases e
        exact mm_T.ret rfl ⟨rfl, rfl⟩
      · rw [if_neg h2284] at e
        by_cases h2285 : x2 = 1
        · rw [if_pos h2285] at e
          refine mm_T.step (f' := (73, [some (.ref 1), some (.int x1), some (.int x2)], [])) (h' := (107, I, J, mm_rf 3 sp rr w nw)) (by first | (rw [h2285]; rfl) | exact absurd h2285 (by decide)) ?_
          refine mm_T.seg (f' := (77, [some (.ref 1), some (.int x1), some (.int x2)], [(.ref 18)])) (h' := (107, I, J, mm_rf 3 sp rr w nw)) 2 rfl ?_
          refine mm_T.seg (f' := (78, [some (.ref 1), some (.int x1), some (.int x2)], [(.int x1), (.ref 18)])) (h' := (107, I, J, mm_rf 3 sp rr w nw)) 1 rfl ?_
          obtain ⟨g421, hg421⟩ : ∃ z, fX7_rowOf x1 I = z := ⟨_, rfl⟩
          try rw [hg421] at e
          refine mm_T.call (t := 106) (as := [(.ref 18), (.int x1)]) (f' := (81, [some (.ref 1), some (.int x1), some (.int x2)], [])) rfl (tX7_rowOf (d + 0) x1 I J 3 sp rr w nw g421 hg421) (fun v h hq => ?_)
          obtain ⟨rfl, rfl⟩ := hq
          cases e
          exact mm_T.ret rfl ⟨rfl, rfl⟩
        · rw [if_neg h2285] at e
          by_cases h2286 : x2 = 2
          · rw [if_pos h2286] at e
            refine mm_T.step (f' := (82, [some (.ref 1), some (.int x1), some (.int x2)], [])) (h' := (107, I, J, mm_rf 3 sp rr w nw)) (by first | (rw [h2286]; rfl) | exact absurd h2286 (by decide)) ?_
            refine mm_T.seg (f' := (86, [some (.ref 1), some (.int x1), some (.int x2)], [(.ref 18)])) (h' := (107, I, J, mm_rf 3 sp rr w nw)) 2 rfl ?_
            refine mm_T.seg (f' := (87, [some (.ref 1), some (.int x1), some (.int x2)], [(.int x1), (.ref 18)])) (h' := (107, I, J, mm_rf 3 sp rr w nw)) 1 rfl ?_
            obtain ⟨g422, hg422⟩ : ∃ z, fX7_heatOf x1 I = z := ⟨_, rfl⟩
            try rw [hg422] at e
            refine mm_T.call (t := 107) (as := [(.ref 18), (.int x1)]) (f' := (90, [some (.ref 1), some (.int x1), some (.int x2)], [])) rfl (tX7_heatOf (d + 0) x1 I J 3 sp rr w nw g422 hg422) (fun v h hq => ?_)
            obtain ⟨rfl, rfl⟩ := hq
            cases e
            exact mm_T.ret rfl ⟨rfl, rfl⟩
          · rw [if_neg h2286] at e
            by_cases h2287 : x2 = 3
            · rw [if_pos h2287] at e
              refine mm_T.step (f' := (91, [some (.ref 1), some (.int x1), some (.int x2)], [])) (h' := (107, I, J, mm_rf 3 sp rr w nw)) (by first | (rw [h2287]; rfl) | exact absurd h2287 (by decide)) ?_
              refine mm_T.seg (f' := (95, [some (.ref 1), some (.int x1), some (.int x2)], [(.ref 18)])) (h' := (107, I, J, mm_rf 3 sp rr w nw)) 2 rfl ?_
              refine mm_T.seg (f' := (96, [some (.ref 1), some (.int x1), some (.int x2)], [(.int x1), (.ref 18)])) (h' := (107, I, J, mm_rf 3 sp rr w nw)) 1 rfl ?_
              obtain ⟨g423, hg423⟩ : ∃ z, fX7_scorchesOf x1 I = z := ⟨_, rfl⟩
              try rw [hg423] at e
              refine mm_T.call (t := 109) (as := [(.ref 18), (.int x1)]) (f' := (99, [some (.ref 1), some (.int x1), some (.int x2)], [])) rfl (tX7_scorchesOf (d + 0) x1 I J 3 sp rr w nw g423 hg423) (fun v h hq => ?_)
              obtain ⟨rfl, rfl⟩ := hq
              cases e
              exact mm_T.ret rfl ⟨rfl, rfl⟩
            · rw [if_neg h2287] at e
              by_cases h2288 : x2 = 4
              · rw [if_pos h2288] at e
                refine mm_T.step (f' := (100, [some (.ref 1), some (.int x1), some (.int x2)], [])) (h' := (107, I, J, mm_rf 3 sp rr w nw)) (by first | (rw [h2288]; rfl) | exact absurd h2288 (by decide)) ?_
                refine mm_T.seg (f' := (104, [some (.ref 1), some (.int x1), some (.int x2)], [(.ref 18)])) (h' := (107, I, J, mm_rf 3 sp rr w nw)) 2 rfl ?_
                refine mm_T.seg (f' := (105, [some (.ref 1), some (.int x1), some (.int x2)], [(.int x1), (.ref 18)])) (h' := (107, I, J, mm_rf 3 sp rr w nw)) 1 rfl ?_
                obtain ⟨g424, hg424⟩ : ∃ z, fX7_strokesOf x1 I = z := ⟨_, rfl⟩
                try rw [hg424] at e
                refine mm_T.call (t := 110) (as := [(.ref 18), (.int x1)]) (f' := (108, [some (.ref 1), some (.int x1), some (.int x2)], [])) rfl (tX7_strokesOf (d + 0) x1 I J 3 sp rr w nw g424 hg424) (fun v h hq => ?_)
                obtain ⟨rfl, rfl⟩ := hq
                cases e
                exact mm_T.ret rfl ⟨rfl, rfl⟩
              · rw [if_neg h2288] at e
                by_cases h2289 : x2 = 5
                · rw [if_pos h2289] at e
                  refine mm_T.step (f' := (109, [some (.ref 1), some (.int x1), some (.int x2)], [])) (h' := (107, I, J, mm_rf 3 sp rr w nw)) (by first | (rw [h2289]; rfl) | exact absurd h2289 (by decide)) ?_
                  refine mm_T.seg (f' := (113, [some (.ref 1), some (.int x1), some (.int x2)], [(.ref 18)])) (h' := (107, I, J, mm_rf 3 sp rr w nw)) 2 rfl ?_
                  refine mm_T.seg (f' := (117, [some (.ref 1), some (.int x1), some (.int x2)], [(.int x1), (.ref 3)])) (h' := (107, I, J, mm_rf 3 sp rr w nw)) 2 rfl ?_
                  obtain ⟨g425, hg425⟩ : ∃ z, fX5_wideOf x1 3 I = z := ⟨_, rfl⟩
                  try rw [hg425] at e
                  refine mm_T.call (t := 77) (as := [(.ref 3), (.int x1)]) (f' := (120, [some (.ref 1), some (.int x1), some (.int x2)], [])) rfl (tX5_wideOf (d + 1) x1 3 I J 3 sp rr w nw (Or.inl rfl) g425 hg425) (fun v h hq => ?_)
                  obtain ⟨rfl, rfl⟩ := hq
                  cases e
                  exact mm_T.ret rfl ⟨rfl, rfl⟩
                · rw [if_neg h2289] at e
                  by_cases h2290 : x2 = 6
                  · rw [if_pos h2290] at e
                    refine mm_T.step (f' := (121, [some (.ref 1), some (.int x1), some (.int x2)], [])) (h' := (107, I, J, mm_rf 3 sp rr w nw)) (by first | (rw [h2290]; rfl) | exact absurd h2290 (by decide)) ?_
                    refine mm_T.seg (f' := (125, [some (.ref 1), some (.int x1), some (.int x2)], [(.ref 18)])) (h' := (107, I, J, mm_rf 3 sp rr w nw)) 2 rfl ?_
                    refine mm_T.seg (f' := (129, [some (.ref 1), some (.int x1), some (.int x2)], [(.int x1), (.ref 3)])) (h' := (107, I, J, mm_rf 3 sp rr w nw)) 2 rfl ?_
                    obtain ⟨g426, hg426⟩ : ∃ z, fX5_bearsOf x1 3 I = z := ⟨_, rfl⟩
                    try rw [hg426] at e
                    refine mm_T.call (t := 79) (as := [(.ref 3), (.int x1)]) (f' := (132, [some (.ref 1), some (.int x1), some (.int x2)], [])) rfl (tX5_bearsOf (d + 1) x1 3 I J 3 sp rr w nw (Or.inl rfl) g426 hg426) (fun v h hq => ?_)
                    obtain ⟨rfl, rfl⟩ := hq
                    cases e
                    exact mm_T.ret rfl ⟨rfl, rfl⟩
                  · rw [if_neg h2290] at e
                    by_cases h2291 : x2 = 7
                    · rw [if_pos h2291] at e
                      refine mm_T.step (f' := (133, [some (.ref 1), some (.int x1), some (.int x2)], [])) (h' := (107, I, J, mm_rf 3 sp rr w nw)) (by first | (rw [h2291]; rfl) | exact absurd h2291 (by decide)) ?_
                      refine mm_T.seg (f' := (137, [some (.ref 1), some (.int x1), some (.int x2)], [(.ref 18)])) (h' := (107, I, J, mm_rf 3 sp rr w nw)) 2 rfl ?_
                      refine mm_T.seg (f' := (138, [some (.ref 1), some (.int x1), some (.int x2)], [(.int x1), (.ref 18)])) (h' := (107, I, J, mm_rf 3 sp rr w nw)) 1 rfl ?_
                      obtain ⟨o2292, eo2292, e⟩ := mm_bind e
                      refine mm_T.call (t := 118) (as := [(.ref 18), (.int x1)]) (f' := (141, [some (.ref 1), some (.int x1), some (.int x2)], [])) rfl (tX7_burdenOf (d + 0) n x1 I J 3 sp rr w nw (Or.inl rfl) o2292 eo2292) (fun v h hq => ?_)
                      obtain ⟨rfl, rfl⟩ := hq
                      cases e
                      exact mm_T.ret rfl ⟨rfl, rfl⟩
                    · rw [if_neg h2291] at e
                      by_cases h2293 : x2 = 8
                      · rw [if_pos h2293] at e
                        refine mm_T.step (f' := (142, [some (.ref 1), some (.int x1), some (.int x2)], [])) (h' := (107, I, J, mm_rf 3 sp rr w nw)) (by first | (rw [h2293]; rfl) | exact absurd h2293 (by decide)) ?_
                        refine mm_T.seg (f' := (146, [some (.ref 1), some (.int x1), some (.int x2)], [(.ref 18)])) (h' := (107, I, J, mm_rf 3 sp rr w nw)) 2 rfl ?_
                        refine mm_T.seg (f' := (147, [some (.ref 1), some (.int x1), some (.int x2)], [(.int x1), (.ref 18)])) (h' := (107, I, J, mm_rf 3 sp rr w nw)) 1 rfl ?_
                        obtain ⟨o2294, eo2294, e⟩ := mm_bind e
                        refine mm_T.call (t := 116) (as := [(.ref 18), (.int x1)]) (f' := (150, [some (.ref 1), some (.int x1), some (.int x2)], [])) rfl (tX7_loadsAt (d + 0) n x1 I J 3 sp rr w nw (Or.inl rfl) o2294 eo2294) (fun v h hq => ?_)
                        obtain ⟨rfl, rfl⟩ := hq
                        cases e
                        exact mm_T.ret rfl ⟨rfl, rfl⟩
                      · rw [if_neg h2293] at e
                        refine mm_T.tabs (lo := 0) (hi := 8) (y := ((151, [some (.ref 1), some (.int x1), some (.int x2)], []), (107, I, J, mm_rf 3 sp rr w nw))) rfl (mm_swo (0) (8) x2 [0, 1, 2, 3, 4, 5, 6, 7, 8] (by decide) (by intro z hz; simp only [List.mem_cons, List.not_mem_nil, or_false] at hz; rcases hz with rfl | rfl | rfl | rfl | rfl | rfl | rfl | rfl | rfl <;> first | assumption | decide)) ?_
                        refine mm_T.seg (f' := (152, [some (.ref 1), some (.int x1), some (.int x2)], [(.int (-1))])) (h' := (107, I, J, mm_rf 3 sp rr w nw)) 1 rfl ?_
                        cases e
                        exact mm_T.ret rfl ⟨rfl, rfl⟩
  · unfold fX11_board at e
    refine mm_T.seg (f' := (4, [some (.ref 1), some (.int x1), some (.int x2)], [(.ref 18)])) (h' := (107, I, J, mm_rf 19 sp rr w nw)) 2 rfl ?_
    refine mm_T.seg (f' := (5, [some (.ref 1), some (.int x1), some (.int x2)], [(.int x1), (.ref 18)])) (h' := (107, I, J, mm_rf 19 sp rr w nw)) 1 rfl ?_
    obtain ⟨g419, hg419⟩ : ∃ z, fX7_isBoard x1 I 19 = z := ⟨_, rfl⟩
    try rw [hg419] at e
    refine mm_T.call (t := 101) (as := [(.ref 18), (.int x1)]) (f' := (8, [some (.ref 1), some (.int x1), some (.int x2)], [])) rfl (tX7_isBoard (d + 2) x1 I J 19 sp rr w nw (Or.inr rfl) g419 hg419) (fun v h hq => ?_)
    obtain ⟨rfl, rfl⟩ := hq
    refine mm_T.br (c := g419 = 0) (a := ((11, [some (.ref 1), some (.int x1), some (.int x2)], []), (107, I, J, mm_rf 19 sp rr w nw))) (b := ((13, [some (.ref 1), some (.int x1), some (.int x2)], []), (107, I, J, mm_rf 19 sp rr w nw))) rfl (fun h2283 => ?_) (fun h2283 => ?_)
    · rw [if_pos h2283] at e
      refine mm_T.seg (f' := (12, [some (.ref 1), some (.int x1), some (.int x2)], [(.int (-1))])) (h' := (107, I, J, mm_rf 19 sp rr w nw)) 1 rfl ?_
      cases e
      exact mm_T.ret rfl ⟨rfl, rfl⟩
    · rw [if_neg h2283] at e
      refine mm_T.seg (f' := (14, [some (.ref 1), some (.int x1), some (.int x2)], [(.int x2)])) (h' := (107, I, J, mm_rf 19 sp rr w nw)) 1 rfl ?_
      by_cases h2284 : x2 = 0
      · rw [if_pos h2284] at e
        refine mm_T.step (f' := (64, [some (.ref 1), some (.int x1), some (.int x2)], [])) (h' := (107, I, J, mm_rf 19 sp rr w nw)) (by first | (rw [h2284]; rfl) | exact absurd h2284 (by decide)) ?_
        refine mm_T.seg (f' := (68, [some (.ref 1), some (.int x1), some (.int x2)], [(.ref 18)])) (h' := (107, I, J, mm_rf 19 sp rr w nw)) 2 rfl ?_
        refine mm_T.seg (f' := (69, [some (.ref 1), some (.int x1), some (.int x2)], [(.int x1), (.ref 18)])) (h' := (107, I, J, mm_rf 19 sp rr w nw)) 1 rfl ?_
        obtain ⟨g420, hg420⟩ : ∃ z, fX7_columnOf x1 I = z := ⟨_, rfl⟩
        try rw [hg420] at e
        refine mm_T.call (t := 105) (as := [(.ref 18), (.int x1)]) (f' := (72, [some (.ref 1), some (.int x1), some (.int x2)], [])) rfl (tX7_columnOf (d + 0) x1 I J 19 sp rr w nw g420 hg420) (fun v h hq => ?_)
        obtain ⟨rfl, rfl⟩ := hq
        cases e
        exact mm_T.ret rfl ⟨rfl, rfl⟩
      · rw [if_neg h2284] at e
        by_cases h2285 : x2 = 1
        · rw [if_pos h2285] at e
          refine mm_T.step (f' := (73, [some (.ref 1), some (.int x1), some (.int x2)], [])) (h' := (107, I, J, mm_rf 19 sp rr w nw)) (by first | (rw [h2285]; rfl) | exact absurd h2285 (by decide)) ?_
          refine mm_T.seg (f' := (77, [some (.ref 1), some (.int x1), some (.int x2)], [(.ref 18)])) (h' := (107, I, J, mm_rf 19 sp rr w nw)) 2 rfl ?_
          refine mm_T.seg (f' := (78, [some (.ref 1), some (.int x1), some (.int x2)], [(.int x1), (.ref 18)])) (h' := (107, I, J, mm_rf 19 sp rr w nw)) 1 rfl ?_
          obtain ⟨g421, hg421⟩ : ∃ z, fX7_rowOf x1 I = z := ⟨_, rfl⟩
          try rw [hg421] at e
          refine mm_T.call (t := 106) (as := [(.ref 18), (.int x1)]) (f' := (81, [some (.ref 1), some (.int x1), some (.int x2)], [])) rfl (tX7_rowOf (d + 0) x1 I J 19 sp rr w nw g421 hg421) (fun v h hq => ?_)
          obtain ⟨rfl, rfl⟩ := hq
          cases e
          exact mm_T.ret rfl ⟨rfl, rfl⟩
        · rw [if_neg h2285] at e
          by_cases h2286 : x2 = 2
          · rw [if_pos h2286] at e
            refine mm_T.step (f' := (82, [some (.ref 1), some (.int x1), some (.int x2)], [])) (h' := (107, I, J, mm_rf 19 sp rr w nw)) (by first | (rw [h2286]; rfl) | exact absurd h2286 (by decide)) ?_
            refine mm_T.seg (f' := (86, [some (.ref 1), some (.int x1), some (.int x2)], [(.ref 18)])) (h' := (107, I, J, mm_rf 19 sp rr w nw)) 2 rfl ?_
            refine mm_T.seg (f' := (87, [some (.ref 1), some (.int x1), some (.int x2)], [(.int x1), (.ref 18)])) (h' := (107, I, J, mm_rf 19 sp rr w nw)) 1 rfl ?_
            obtain ⟨g422, hg422⟩ : ∃ z, fX7_heatOf x1 I = z := ⟨_, rfl⟩
            try rw [hg422] at e
            refine mm_T.call (t := 107) (as := [(.ref 18), (.int x1)]) (f' := (90, [some (.ref 1), some (.int x1), some (.int x2)], [])) rfl (tX7_heatOf (d + 0) x1 I J 19 sp rr w nw g422 hg422) (fun v h hq => ?_)
            obtain ⟨rfl, rfl⟩ := hq
            cases e
            exact mm_T.ret rfl ⟨rfl, rfl⟩
          · rw [if_neg h2286] at e
            by_cases h2287 : x2 = 3
            · rw [if_pos h2287] at e
              refine mm_T.step (f' := (91, [some (.ref 1), some (.int x1), some (.int x2)], [])) (h' := (107, I, J, mm_rf 19 sp rr w nw)) (by first | (rw [h2287]; rfl) | exact absurd h2287 (by decide)) ?_
              refine mm_T.seg (f' := (95, [some (.ref 1), some (.int x1), some (.int x2)], [(.ref 18)])) (h' := (107, I, J, mm_rf 19 sp rr w nw)) 2 rfl ?_
              refine mm_T.seg (f' := (96, [some (.ref 1), some (.int x1), some (.int x2)], [(.int x1), (.ref 18)])) (h' := (107, I, J, mm_rf 19 sp rr w nw)) 1 rfl ?_
              obtain ⟨g423, hg423⟩ : ∃ z, fX7_scorchesOf x1 I = z := ⟨_, rfl⟩
              try rw [hg423] at e
              refine mm_T.call (t := 109) (as := [(.ref 18), (.int x1)]) (f' := (99, [some (.ref 1), some (.int x1), some (.int x2)], [])) rfl (tX7_scorchesOf (d + 0) x1 I J 19 sp rr w nw g423 hg423) (fun v h hq => ?_)
              obtain ⟨rfl, rfl⟩ := hq
              cases e
              exact mm_T.ret rfl ⟨rfl, rfl⟩
            · rw [if_neg h2287] at e
              by_cases h2288 : x2 = 4
              · rw [if_pos h2288] at e
                refine mm_T.step (f' := (100, [some (.ref 1), some (.int x1), some (.int x2)], [])) (h' := (107, I, J, mm_rf 19 sp rr w nw)) (by first | (rw [h2288]; rfl) | exact absurd h2288 (by decide)) ?_
                refine mm_T.seg (f' := (104, [some (.ref 1), some (.int x1), some (.int x2)], [(.ref 18)])) (h' := (107, I, J, mm_rf 19 sp rr w nw)) 2 rfl ?_
                refine mm_T.seg (f' := (105, [some (.ref 1), some (.int x1), some (.int x2)], [(.int x1), (.ref 18)])) (h' := (107, I, J, mm_rf 19 sp rr w nw)) 1 rfl ?_
                obtain ⟨g424, hg424⟩ : ∃ z, fX7_strokesOf x1 I = z := ⟨_, rfl⟩
                try rw [hg424] at e
                refine mm_T.call (t := 110) (as := [(.ref 18), (.int x1)]) (f' := (108, [some (.ref 1), some (.int x1), some (.int x2)], [])) rfl (tX7_strokesOf (d + 0) x1 I J 19 sp rr w nw g424 hg424) (fun v h hq => ?_)
                obtain ⟨rfl, rfl⟩ := hq
                cases e
                exact mm_T.ret rfl ⟨rfl, rfl⟩
              · rw [if_neg h2288] at e
                by_cases h2289 : x2 = 5
                · rw [if_pos h2289] at e
                  refine mm_T.step (f' := (109, [some (.ref 1), some (.int x1), some (.int x2)], [])) (h' := (107, I, J, mm_rf 19 sp rr w nw)) (by first | (rw [h2289]; rfl) | exact absurd h2289 (by decide)) ?_
                  refine mm_T.seg (f' := (113, [some (.ref 1), some (.int x1), some (.int x2)], [(.ref 18)])) (h' := (107, I, J, mm_rf 19 sp rr w nw)) 2 rfl ?_
                  refine mm_T.seg (f' := (117, [some (.ref 1), some (.int x1), some (.int x2)], [(.int x1), (.ref 19)])) (h' := (107, I, J, mm_rf 19 sp rr w nw)) 2 rfl ?_
                  obtain ⟨g425, hg425⟩ : ∃ z, fX5_wideOf x1 19 I = z := ⟨_, rfl⟩
                  try rw [hg425] at e
                  refine mm_T.call (t := 77) (as := [(.ref 19), (.int x1)]) (f' := (120, [some (.ref 1), some (.int x1), some (.int x2)], [])) rfl (tX5_wideOf (d + 1) x1 19 I J 19 sp rr w nw (Or.inr rfl) g425 hg425) (fun v h hq => ?_)
                  obtain ⟨rfl, rfl⟩ := hq
                  cases e
                  exact mm_T.ret rfl ⟨rfl, rfl⟩
                · rw [if_neg h2289] at e
                  by_cases h2290 : x2 = 6
                  · rw [if_pos h2290] at e
                    refine mm_T.step (f' := (121, [some (.ref 1), some (.int x1), some (.int x2)], [])) (h' := (107, I, J, mm_rf 19 sp rr w nw)) (by first | (rw [h2290]; rfl) | exact absurd h2290 (by decide)) ?_
                    refine mm_T.seg (f' := (125, [some (.ref 1), some (.int x1), some (.int x2)], [(.ref 18)])) (h' := (107, I, J, mm_rf 19 sp rr w nw)) 2 rfl ?_
                    refine mm_T.seg (f' := (129, [some (.ref 1), some (.int x1), some (.int x2)], [(.int x1), (.ref 19)])) (h' := (107, I, J, mm_rf 19 sp rr w nw)) 2 rfl ?_
                    obtain ⟨g426, hg426⟩ : ∃ z, fX5_bearsOf x1 19 I = z := ⟨_, rfl⟩
                    try rw [hg426] at e
                    refine mm_T.call (t := 79) (as := [(.ref 19), (.int x1)]) (f' := (132, [some (.ref 1), some (.int x1), some (.int x2)], [])) rfl (tX5_bearsOf (d + 1) x1 19 I J 19 sp rr w nw (Or.inr rfl) g426 hg426) (fun v h hq => ?_)
                    obtain ⟨rfl, rfl⟩ := hq
                    cases e
                    exact mm_T.ret rfl ⟨rfl, rfl⟩
                  · rw [if_neg h2290] at e
                    by_cases h2291 : x2 = 7
                    · rw [if_pos h2291] at e
                      refine mm_T.step (f' := (133, [some (.ref 1), some (.int x1), some (.int x2)], [])) (h' := (107, I, J, mm_rf 19 sp rr w nw)) (by first | (rw [h2291]; rfl) | exact absurd h2291 (by decide)) ?_
                      refine mm_T.seg (f' := (137, [some (.ref 1), some (.int x1), some (.int x2)], [(.ref 18)])) (h' := (107, I, J, mm_rf 19 sp rr w nw)) 2 rfl ?_
                      refine mm_T.seg (f' := (138, [some (.ref 1), some (.int x1), some (.int x2)], [(.int x1), (.ref 18)])) (h' := (107, I, J, mm_rf 19 sp rr w nw)) 1 rfl ?_
                      obtain ⟨o2292, eo2292, e⟩ := mm_bind e
                      refine mm_T.call (t := 118) (as := [(.ref 18), (.int x1)]) (f' := (141, [some (.ref 1), some (.int x1), some (.int x2)], [])) rfl (tX7_burdenOf (d + 0) n x1 I J 19 sp rr w nw (Or.inr rfl) o2292 eo2292) (fun v h hq => ?_)
                      obtain ⟨rfl, rfl⟩ := hq
                      cases e
                      exact mm_T.ret rfl ⟨rfl, rfl⟩
                    · rw [if_neg h2291] at e
                      by_cases h2293 : x2 = 8
                      · rw [if_pos h2293] at e
                        refine mm_T.step (f' := (142, [some (.ref 1), some (.int x1), some (.int x2)], [])) (h' := (107, I, J, mm_rf 19 sp rr w nw)) (by first | (rw [h2293]; rfl) | exact absurd h2293 (by decide)) ?_
                        refine mm_T.seg (f' := (146, [some (.ref 1), some (.int x1), some (.int x2)], [(.ref 18)])) (h' := (107, I, J, mm_rf 19 sp rr w nw)) 2 rfl ?_
                        refine mm_T.seg (f' := (147, [some (.ref 1), some (.int x1), some (.int x2)], [(.int x1), (.ref 18)])) (h' := (107, I, J, mm_rf 19 sp rr w nw)) 1 rfl ?_
                        obtain ⟨o2294, eo2294, e⟩ := mm_bind e
                        refine mm_T.call (t := 116) (as := [(.ref 18), (.int x1)]) (f' := (150, [some (.ref 1), some (.int x1), some (.int x2)], [])) rfl (tX7_loadsAt (d + 0) n x1 I J 19 sp rr w nw (Or.inr rfl) o2294 eo2294) (fun v h hq => ?_)
                        obtain ⟨rfl, rfl⟩ := hq
                        cases e
                        exact mm_T.ret rfl ⟨rfl, rfl⟩
                      · rw [if_neg h2293] at e
                        refine mm_T.tabs (lo := 0) (hi := 8) (y := ((151, [some (.ref 1), some (.int x1), some (.int x2)], []), (107, I, J, mm_rf 19 sp rr w nw))) rfl (mm_swo (0) (8) x2 [0, 1, 2, 3, 4, 5, 6, 7, 8] (by decide) (by intro z hz; simp only [List.mem_cons, List.not_mem_nil, or_false] at hz; rcases hz with rfl | rfl | rfl | rfl | rfl | rfl | rfl | rfl | rfl <;> first | assumption | decide)) ?_
                        refine mm_T.seg (f' := (152, [some (.ref 1), some (.int x1), some (.int x2)], [(.int (-1))])) (h' := (107, I, J, mm_rf 19 sp rr w nw)) 1 rfl ?_
                        cases e
                        exact mm_T.ret rfl ⟨rfl, rfl⟩
set_option maxRecDepth 100000 in
set_option maxHeartbeats 4000000 in
theorem tX11_load (d : Nat) (x1 : Int32) (x2 : Int32) (I : Nat → Nat → Int32) (J : Nat → Nat → Int64) (rv sp rr w nw : Nat) (hrv : rv = 3 ∨ rv = 19) (out : Int32) (e : fX11_load x1 x2 I rv = out) : mm_T none (d + 2) 165 (mm_ent 165 [(.ref 1), (.int x1), (.int x2)]) (107, I, J, mm_rf rv sp rr w nw) (fun v h => v = some (.int out) ∧ h = (107, I, J, mm_rf rv sp rr w nw)) := by
  rcases hrv with rfl | rfl
  · unfold fX11_load at e
    refine mm_T.seg (f' := (4, [some (.ref 1), some (.int x1), some (.int x2)], [(.ref 18)])) (h' := (107, I, J, mm_rf 3 sp rr w nw)) 2 rfl ?_
    refine mm_T.seg (f' := (5, [some (.ref 1), some (.int x1), some (.int x2)], [(.int x1), (.ref 18)])) (h' := (107, I, J, mm_rf 3 sp rr w nw)) 1 rfl ?_
    obtain ⟨g427, hg427⟩ : ∃ z, fX7_isLoad x1 I 3 = z := ⟨_, rfl⟩
    try rw [hg427] at e
    refine mm_T.call (t := 102) (as := [(.ref 18), (.int x1)]) (f' := (8, [some (.ref 1), some (.int x1), some (.int x2)], [])) rfl (tX7_isLoad (d + 1) x1 I J 3 sp rr w nw (Or.inl rfl) g427 hg427) (fun v h hq => ?_)
    obtain ⟨rfl, rfl⟩ := hq
    refine mm_T.br (c := g427 = 0) (a := ((11, [some (.ref 1), some (.int x1), some (.int x2)], []), (107, I, J, mm_rf 3 sp rr w nw))) (b := ((14, [some (.ref 1), some (.int x1), some (.int x2)], []), (107, I, J, mm_rf 3 sp rr w nw))) rfl (fun h2295 => ?_) (fun h2295 => ?_)
    · rw [if_pos h2295] at e
      refine mm_T.seg (f' := (13, [some (.ref 1), some (.int x1), some (.int x2)], [(.int (-3))])) (h' := (107, I, J, mm_rf 3 sp rr w nw)) 1 rfl ?_
      cases e
      exact mm_T.ret rfl ⟨rfl, rfl⟩
    · rw [if_neg h2295] at e
      refine mm_T.seg (f' := (15, [some (.ref 1), some (.int x1), some (.int x2)], [(.int x2)])) (h' := (107, I, J, mm_rf 3 sp rr w nw)) 1 rfl ?_
      by_cases h2296 : x2 = 0
      · rw [if_pos h2296] at e
        refine mm_T.step (f' := (40, [some (.ref 1), some (.int x1), some (.int x2)], [])) (h' := (107, I, J, mm_rf 3 sp rr w nw)) (by first | (rw [h2296]; rfl) | exact absurd h2296 (by decide)) ?_
        refine mm_T.seg (f' := (44, [some (.ref 1), some (.int x1), some (.int x2)], [(.ref 18)])) (h' := (107, I, J, mm_rf 3 sp rr w nw)) 2 rfl ?_
        refine mm_T.seg (f' := (48, [some (.ref 1), some (.int x1), some (.int x2)], [(.int x1), (.ref 3)])) (h' := (107, I, J, mm_rf 3 sp rr w nw)) 2 rfl ?_
        obtain ⟨g428, hg428⟩ : ∃ z, fX5_loadWide x1 3 I = z := ⟨_, rfl⟩
        try rw [hg428] at e
        refine mm_T.call (t := 80) (as := [(.ref 3), (.int x1)]) (f' := (51, [some (.ref 1), some (.int x1), some (.int x2)], [])) rfl (tX5_loadWide (d + 0) x1 3 I J 3 sp rr w nw (Or.inl rfl) g428 hg428) (fun v h hq => ?_)
        obtain ⟨rfl, rfl⟩ := hq
        cases e
        exact mm_T.ret rfl ⟨rfl, rfl⟩
      · rw [if_neg h2296] at e
        by_cases h2297 : x2 = 1
        · rw [if_pos h2297] at e
          refine mm_T.step (f' := (52, [some (.ref 1), some (.int x1), some (.int x2)], [])) (h' := (107, I, J, mm_rf 3 sp rr w nw)) (by first | (rw [h2297]; rfl) | exact absurd h2297 (by decide)) ?_
          refine mm_T.seg (f' := (56, [some (.ref 1), some (.int x1), some (.int x2)], [(.ref 18)])) (h' := (107, I, J, mm_rf 3 sp rr w nw)) 2 rfl ?_
          refine mm_T.seg (f' := (57, [some (.ref 1), some (.int x1), some (.int x2)], [(.int x1), (.ref 18)])) (h' := (107, I, J, mm_rf 3 sp rr w nw)) 1 rfl ?_
          obtain ⟨g429, hg429⟩ : ∃ z, fX7_placeOf x1 I = z := ⟨_, rfl⟩
          try rw [hg429] at e
          refine mm_T.call (t := 112) (as := [(.ref 18), (.int x1)]) (f' := (60, [some (.ref 1), some (.int x1), some (.int x2)], [])) rfl (tX7_placeOf (d + 0) x1 I J 3 sp rr w nw g429 hg429) (fun v h hq => ?_)
          obtain ⟨rfl, rfl⟩ := hq
          cases e
          exact mm_T.ret rfl ⟨rfl, rfl⟩
        · rw [if_neg h2297] at e
          refine mm_T.step (f' := (61, [some (.ref 1), some (.int x1), some (.int x2)], [])) (h' := (107, I, J, mm_rf 3 sp rr w nw)) (by show mm_go (mm_tg 15 (Op.lookupswitch.offset [(0, 25), (1, 37)] 46 x2.toInt)) _ _ _ = _; rw [lv_osw (a := 0) h2296 (by decide), lv_osw (a := 1) h2297 (by decide)]; rfl) ?_
          refine mm_T.seg (f' := (63, [some (.ref 1), some (.int x1), some (.int x2)], [(.int (-3))])) (h' := (107, I, J, mm_rf 3 sp rr w nw)) 1 rfl ?_
          cases e
          exact mm_T.ret rfl ⟨rfl, rfl⟩
  · unfold fX11_load at e
    refine mm_T.seg (f' := (4, [some (.ref 1), some (.int x1), some (.int x2)], [(.ref 18)])) (h' := (107, I, J, mm_rf 19 sp rr w nw)) 2 rfl ?_
    refine mm_T.seg (f' := (5, [some (.ref 1), some (.int x1), some (.int x2)], [(.int x1), (.ref 18)])) (h' := (107, I, J, mm_rf 19 sp rr w nw)) 1 rfl ?_
    obtain ⟨g427, hg427⟩ : ∃ z, fX7_isLoad x1 I 19 = z := ⟨_, rfl⟩
    try rw [hg427] at e
    refine mm_T.call (t := 102) (as := [(.ref 18), (.int x1)]) (f' := (8, [some (.ref 1), some (.int x1), some (.int x2)], [])) rfl (tX7_isLoad (d + 1) x1 I J 19 sp rr w nw (Or.inr rfl) g427 hg427) (fun v h hq => ?_)
    obtain ⟨rfl, rfl⟩ := hq
    refine mm_T.br (c := g427 = 0) (a := ((11, [some (.ref 1), some (.int x1), some (.int x2)], []), (107, I, J, mm_rf 19 sp rr w nw))) (b := ((14, [some (.ref 1), some (.int x1), some (.int x2)], []), (107, I, J, mm_rf 19 sp rr w nw))) rfl (fun h2295 => ?_) (fun h2295 => ?_)
    · rw [if_pos h2295] at e
      refine mm_T.seg (f' := (13, [some (.ref 1), some (.int x1), some (.int x2)], [(.int (-3))])) (h' := (107, I, J, mm_rf 19 sp rr w nw)) 1 rfl ?_
      cases e
      exact mm_T.ret rfl ⟨rfl, rfl⟩
    · rw [if_neg h2295] at e
      refine mm_T.seg (f' := (15, [some (.ref 1), some (.int x1), some (.int x2)], [(.int x2)])) (h' := (107, I, J, mm_rf 19 sp rr w nw)) 1 rfl ?_
      by_cases h2296 : x2 = 0
      · rw [if_pos h2296] at e
        refine mm_T.step (f' := (40, [some (.ref 1), some (.int x1), some (.int x2)], [])) (h' := (107, I, J, mm_rf 19 sp rr w nw)) (by first | (rw [h2296]; rfl) | exact absurd h2296 (by decide)) ?_
        refine mm_T.seg (f' := (44, [some (.ref 1), some (.int x1), some (.int x2)], [(.ref 18)])) (h' := (107, I, J, mm_rf 19 sp rr w nw)) 2 rfl ?_
        refine mm_T.seg (f' := (48, [some (.ref 1), some (.int x1), some (.int x2)], [(.int x1), (.ref 19)])) (h' := (107, I, J, mm_rf 19 sp rr w nw)) 2 rfl ?_
        obtain ⟨g428, hg428⟩ : ∃ z, fX5_loadWide x1 19 I = z := ⟨_, rfl⟩
        try rw [hg428] at e
        refine mm_T.call (t := 80) (as := [(.ref 19), (.int x1)]) (f' := (51, [some (.ref 1), some (.int x1), some (.int x2)], [])) rfl (tX5_loadWide (d + 0) x1 19 I J 19 sp rr w nw (Or.inr rfl) g428 hg428) (fun v h hq => ?_)
        obtain ⟨rfl, rfl⟩ := hq
        cases e
        exact mm_T.ret rfl ⟨rfl, rfl⟩
      · rw [if_neg h2296] at e
        by_cases h2297 : x2 = 1
        · rw [if_pos h2297] at e
          refine mm_T.step (f' := (52, [some (.ref 1), some (.int x1), some (.int x2)], [])) (h' := (107, I, J, mm_rf 19 sp rr w nw)) (by first | (rw [h2297]; rfl) | exact absurd h2297 (by decide)) ?_
          refine mm_T.seg (f' := (56, [some (.ref 1), some (.int x1), some (.int x2)], [(.ref 18)])) (h' := (107, I, J, mm_rf 19 sp rr w nw)) 2 rfl ?_
          refine mm_T.seg (f' := (57, [some (.ref 1), some (.int x1), some (.int x2)], [(.int x1), (.ref 18)])) (h' := (107, I, J, mm_rf 19 sp rr w nw)) 1 rfl ?_
          obtain ⟨g429, hg429⟩ : ∃ z, fX7_placeOf x1 I = z := ⟨_, rfl⟩
          try rw [hg429] at e
          refine mm_T.call (t := 112) (as := [(.ref 18), (.int x1)]) (f' := (60, [some (.ref 1), some (.int x1), some (.int x2)], [])) rfl (tX7_placeOf (d + 0) x1 I J 19 sp rr w nw g429 hg429) (fun v h hq => ?_)
          obtain ⟨rfl, rfl⟩ := hq
          cases e
          exact mm_T.ret rfl ⟨rfl, rfl⟩
        · rw [if_neg h2297] at e
          refine mm_T.step (f' := (61, [some (.ref 1), some (.int x1), some (.int x2)], [])) (h' := (107, I, J, mm_rf 19 sp rr w nw)) (by show mm_go (mm_tg 15 (Op.lookupswitch.offset [(0, 25), (1, 37)] 46 x2.toInt)) _ _ _ = _; rw [lv_osw (a := 0) h2296 (by decide), lv_osw (a := 1) h2297 (by decide)]; rfl) ?_
          refine mm_T.seg (f' := (63, [some (.ref 1), some (.int x1), some (.int x2)], [(.int (-3))])) (h' := (107, I, J, mm_rf 19 sp rr w nw)) 1 rfl ?_
          cases e
          exact mm_T.ret rfl ⟨rfl, rfl⟩
set_option maxRecDepth 100000 in
set_option maxHeartbeats 4000000 in
theorem tX11_spot (d : Nat) (x1 : Int32) (x2 : Int32) (x3 : Int32) (I : Nat → Nat → Int32) (J : Nat → Nat → Int64) (rv sp rr w nw : Nat) (hrv : rv = 3 ∨ rv = 19) (out : Int32) (e : fX11_spot x1 x2 x3 I rv = out) : mm_T none (d + 2) 166 (mm_ent 166 [(.ref 1), (.int x1), (.int x2), (.int x3)]) (107, I, J, mm_rf rv sp rr w nw) (fun v h => v = some (.int out) ∧ h = (107, I, J, mm_rf rv sp rr w nw)) := by
  rcases hrv with rfl | rfl
  · unfold fX11_spot at e
    refine mm_T.seg (f' := (4, [some (.ref 1), some (.int x1), some (.int x2), some (.int x3)], [(.ref 18)])) (h' := (107, I, J, mm_rf 3 sp rr w nw)) 2 rfl ?_
    refine mm_T.seg (f' := (9, [some (.ref 1), some (.int x1), some (.int x2), some (.int x3)], [(.int x2), (.int x1), (.ref 3)])) (h' := (107, I, J, mm_rf 3 sp rr w nw)) 3 rfl ?_
    obtain ⟨g430, hg430⟩ : ∃ z, fX5_isCell x1 x2 3 I = z := ⟨_, rfl⟩
    try rw [hg430] at e
    refine mm_T.call (t := 66) (as := [(.ref 3), (.int x1), (.int x2)]) (f' := (12, [some (.ref 1), some (.int x1), some (.int x2), some (.int x3)], [])) rfl (tX5_isCell (d + 1) x1 x2 3 I J 3 sp rr w nw (Or.inl rfl) g430 hg430) (fun v h hq => ?_)
    obtain ⟨rfl, rfl⟩ := hq
    refine mm_T.br (c := g430 = 0) (a := ((15, [some (.ref 1), some (.int x1), some (.int x2), some (.int x3)], []), (107, I, J, mm_rf 3 sp rr w nw))) (b := ((17, [some (.ref 1), some (.int x1), some (.int x2), some (.int x3)], []), (107, I, J, mm_rf 3 sp rr w nw))) rfl (fun h2298 => ?_) (fun h2298 => ?_)
    · rw [if_pos h2298] at e
      refine mm_T.seg (f' := (16, [some (.ref 1), some (.int x1), some (.int x2), some (.int x3)], [(.int (-1))])) (h' := (107, I, J, mm_rf 3 sp rr w nw)) 1 rfl ?_
      cases e
      exact mm_T.ret rfl ⟨rfl, rfl⟩
    · rw [if_neg h2298] at e
      refine mm_T.seg (f' := (18, [some (.ref 1), some (.int x1), some (.int x2), some (.int x3)], [(.int x3)])) (h' := (107, I, J, mm_rf 3 sp rr w nw)) 1 rfl ?_
      by_cases h2299 : x3 = 0
      · rw [if_pos h2299] at e
        refine mm_T.step (f' := (44, [some (.ref 1), some (.int x1), some (.int x2), some (.int x3)], [])) (h' := (107, I, J, mm_rf 3 sp rr w nw)) (by first | (rw [h2299]; rfl) | exact absurd h2299 (by decide)) ?_
        refine mm_T.seg (f' := (48, [some (.ref 1), some (.int x1), some (.int x2), some (.int x3)], [(.ref 18)])) (h' := (107, I, J, mm_rf 3 sp rr w nw)) 2 rfl ?_
        refine mm_T.seg (f' := (53, [some (.ref 1), some (.int x1), some (.int x2), some (.int x3)], [(.int x2), (.int x1), (.ref 3)])) (h' := (107, I, J, mm_rf 3 sp rr w nw)) 3 rfl ?_
        obtain ⟨g431, hg431⟩ : ∃ z, fX5_currentAt x1 x2 3 I = z := ⟨_, rfl⟩
        try rw [hg431] at e
        refine mm_T.call (t := 68) (as := [(.ref 3), (.int x1), (.int x2)]) (f' := (56, [some (.ref 1), some (.int x1), some (.int x2), some (.int x3)], [])) rfl (tX5_currentAt (d + 0) x1 x2 3 I J 3 sp rr w nw (Or.inl rfl) g431 hg431) (fun v h hq => ?_)
        obtain ⟨rfl, rfl⟩ := hq
        cases e
        exact mm_T.ret rfl ⟨rfl, rfl⟩
      · rw [if_neg h2299] at e
        by_cases h2300 : x3 = 1
        · rw [if_pos h2300] at e
          refine mm_T.step (f' := (57, [some (.ref 1), some (.int x1), some (.int x2), some (.int x3)], [])) (h' := (107, I, J, mm_rf 3 sp rr w nw)) (by first | (rw [h2300]; rfl) | exact absurd h2300 (by decide)) ?_
          refine mm_T.seg (f' := (61, [some (.ref 1), some (.int x1), some (.int x2), some (.int x3)], [(.ref 18)])) (h' := (107, I, J, mm_rf 3 sp rr w nw)) 2 rfl ?_
          refine mm_T.seg (f' := (66, [some (.ref 1), some (.int x1), some (.int x2), some (.int x3)], [(.int x2), (.int x1), (.ref 3)])) (h' := (107, I, J, mm_rf 3 sp rr w nw)) 3 rfl ?_
          obtain ⟨g432, hg432⟩ : ∃ z, fX5_ironAt x1 x2 3 I = z := ⟨_, rfl⟩
          try rw [hg432] at e
          refine mm_T.call (t := 69) (as := [(.ref 3), (.int x1), (.int x2)]) (f' := (69, [some (.ref 1), some (.int x1), some (.int x2), some (.int x3)], [])) rfl (tX5_ironAt (d + 0) x1 x2 3 I J 3 sp rr w nw (Or.inl rfl) g432 hg432) (fun v h hq => ?_)
          obtain ⟨rfl, rfl⟩ := hq
          refine mm_T.br (c := g432 = 0) (a := ((76, [some (.ref 1), some (.int x1), some (.int x2), some (.int x3)], []), (107, I, J, mm_rf 3 sp rr w nw))) (b := ((72, [some (.ref 1), some (.int x1), some (.int x2), some (.int x3)], []), (107, I, J, mm_rf 3 sp rr w nw))) rfl (fun h2301 => ?_) (fun h2301 => ?_)
          · rw [if_pos h2301] at e
            refine mm_T.seg (f' := (77, [some (.ref 1), some (.int x1), some (.int x2), some (.int x3)], [(.int 0)])) (h' := (107, I, J, mm_rf 3 sp rr w nw)) 1 rfl ?_
            cases e
            exact mm_T.ret rfl ⟨rfl, rfl⟩
          · rw [if_neg h2301] at e
            refine mm_T.seg (f' := (77, [some (.ref 1), some (.int x1), some (.int x2), some (.int x3)], [(.int 1)])) (h' := (107, I, J, mm_rf 3 sp rr w nw)) 2 rfl ?_
            cases e
            exact mm_T.ret rfl ⟨rfl, rfl⟩
        · rw [if_neg h2300] at e
          refine mm_T.step (f' := (78, [some (.ref 1), some (.int x1), some (.int x2), some (.int x3)], [])) (h' := (107, I, J, mm_rf 3 sp rr w nw)) (by show mm_go (mm_tg 18 (Op.lookupswitch.offset [(0, 26), (1, 39)] 60 x3.toInt)) _ _ _ = _; rw [lv_osw (a := 0) h2299 (by decide), lv_osw (a := 1) h2300 (by decide)]; rfl) ?_
          refine mm_T.seg (f' := (79, [some (.ref 1), some (.int x1), some (.int x2), some (.int x3)], [(.int (-1))])) (h' := (107, I, J, mm_rf 3 sp rr w nw)) 1 rfl ?_
          cases e
          exact mm_T.ret rfl ⟨rfl, rfl⟩
  · unfold fX11_spot at e
    refine mm_T.seg (f' := (4, [some (.ref 1), some (.int x1), some (.int x2), some (.int x3)], [(.ref 18)])) (h' := (107, I, J, mm_rf 19 sp rr w nw)) 2 rfl ?_
    refine mm_T.seg (f' := (9, [some (.ref 1), some (.int x1), some (.int x2), some (.int x3)], [(.int x2), (.int x1), (.ref 19)])) (h' := (107, I, J, mm_rf 19 sp rr w nw)) 3 rfl ?_
    obtain ⟨g430, hg430⟩ : ∃ z, fX5_isCell x1 x2 19 I = z := ⟨_, rfl⟩
    try rw [hg430] at e
    refine mm_T.call (t := 66) (as := [(.ref 19), (.int x1), (.int x2)]) (f' := (12, [some (.ref 1), some (.int x1), some (.int x2), some (.int x3)], [])) rfl (tX5_isCell (d + 1) x1 x2 19 I J 19 sp rr w nw (Or.inr rfl) g430 hg430) (fun v h hq => ?_)
    obtain ⟨rfl, rfl⟩ := hq
    refine mm_T.br (c := g430 = 0) (a := ((15, [some (.ref 1), some (.int x1), some (.int x2), some (.int x3)], []), (107, I, J, mm_rf 19 sp rr w nw))) (b := ((17, [some (.ref 1), some (.int x1), some (.int x2), some (.int x3)], []), (107, I, J, mm_rf 19 sp rr w nw))) rfl (fun h2298 => ?_) (fun h2298 => ?_)
    · rw [if_pos h2298] at e
      refine mm_T.seg (f' := (16, [some (.ref 1), some (.int x1), some (.int x2), some (.int x3)], [(.int (-1))])) (h' := (107, I, J, mm_rf 19 sp rr w nw)) 1 rfl ?_
      cases e
      exact mm_T.ret rfl ⟨rfl, rfl⟩
    · rw [if_neg h2298] at e
      refine mm_T.seg (f' := (18, [some (.ref 1), some (.int x1), some (.int x2), some (.int x3)], [(.int x3)])) (h' := (107, I, J, mm_rf 19 sp rr w nw)) 1 rfl ?_
      by_cases h2299 : x3 = 0
      · rw [if_pos h2299] at e
        refine mm_T.step (f' := (44, [some (.ref 1), some (.int x1), some (.int x2), some (.int x3)], [])) (h' := (107, I, J, mm_rf 19 sp rr w nw)) (by first | (rw [h2299]; rfl) | exact absurd h2299 (by decide)) ?_
        refine mm_T.seg (f' := (48, [some (.ref 1), some (.int x1), some (.int x2), some (.int x3)], [(.ref 18)])) (h' := (107, I, J, mm_rf 19 sp rr w nw)) 2 rfl ?_
        refine mm_T.seg (f' := (53, [some (.ref 1), some (.int x1), some (.int x2), some (.int x3)], [(.int x2), (.int x1), (.ref 19)])) (h' := (107, I, J, mm_rf 19 sp rr w nw)) 3 rfl ?_
        obtain ⟨g431, hg431⟩ : ∃ z, fX5_currentAt x1 x2 19 I = z := ⟨_, rfl⟩
        try rw [hg431] at e
        refine mm_T.call (t := 68) (as := [(.ref 19), (.int x1), (.int x2)]) (f' := (56, [some (.ref 1), some (.int x1), some (.int x2), some (.int x3)], [])) rfl (tX5_currentAt (d + 0) x1 x2 19 I J 19 sp rr w nw (Or.inr rfl) g431 hg431) (fun v h hq => ?_)
        obtain ⟨rfl, rfl⟩ := hq
        cases e
        exact mm_T.ret rfl ⟨rfl, rfl⟩
      · rw [if_neg h2299] at e
        by_cases h2300 : x3 = 1
        · rw [if_pos h2300] at e
          refine mm_T.step (f' := (57, [some (.ref 1), some (.int x1), some (.int x2), some (.int x3)], [])) (h' := (107, I, J, mm_rf 19 sp rr w nw)) (by first | (rw [h2300]; rfl) | exact absurd h2300 (by decide)) ?_
          refine mm_T.seg (f' := (61, [some (.ref 1), some (.int x1), some (.int x2), some (.int x3)], [(.ref 18)])) (h' := (107, I, J, mm_rf 19 sp rr w nw)) 2 rfl ?_
          refine mm_T.seg (f' := (66, [some (.ref 1), some (.int x1), some (.int x2), some (.int x3)], [(.int x2), (.int x1), (.ref 19)])) (h' := (107, I, J, mm_rf 19 sp rr w nw)) 3 rfl ?_
          obtain ⟨g432, hg432⟩ : ∃ z, fX5_ironAt x1 x2 19 I = z := ⟨_, rfl⟩
          try rw [hg432] at e
          refine mm_T.call (t := 69) (as := [(.ref 19), (.int x1), (.int x2)]) (f' := (69, [some (.ref 1), some (.int x1), some (.int x2), some (.int x3)], [])) rfl (tX5_ironAt (d + 0) x1 x2 19 I J 19 sp rr w nw (Or.inr rfl) g432 hg432) (fun v h hq => ?_)
          obtain ⟨rfl, rfl⟩ := hq
          refine mm_T.br (c := g432 = 0) (a := ((76, [some (.ref 1), some (.int x1), some (.int x2), some (.int x3)], []), (107, I, J, mm_rf 19 sp rr w nw))) (b := ((72, [some (.ref 1), some (.int x1), some (.int x2), some (.int x3)], []), (107, I, J, mm_rf 19 sp rr w nw))) rfl (fun h2301 => ?_) (fun h2301 => ?_)
          · rw [if_pos h2301] at e
            refine mm_T.seg (f' := (77, [some (.ref 1), some (.int x1), some (.int x2), some (.int x3)], [(.int 0)])) (h' := (107, I, J, mm_rf 19 sp rr w nw)) 1 rfl ?_
            cases e
            exact mm_T.ret rfl ⟨rfl, rfl⟩
          · rw [if_neg h2301] at e
            refine mm_T.seg (f' := (77, [some (.ref 1), some (.int x1), some (.int x2), some (.int x3)], [(.int 1)])) (h' := (107, I, J, mm_rf 19 sp rr w nw)) 2 rfl ?_
            cases e
            exact mm_T.ret rfl ⟨rfl, rfl⟩
        · rw [if_neg h2300] at e
          refine mm_T.step (f' := (78, [some (.ref 1), some (.int x1), some (.int x2), some (.int x3)], [])) (h' := (107, I, J, mm_rf 19 sp rr w nw)) (by show mm_go (mm_tg 18 (Op.lookupswitch.offset [(0, 26), (1, 39)] 60 x3.toInt)) _ _ _ = _; rw [lv_osw (a := 0) h2299 (by decide), lv_osw (a := 1) h2300 (by decide)]; rfl) ?_
          refine mm_T.seg (f' := (79, [some (.ref 1), some (.int x1), some (.int x2), some (.int x3)], [(.int (-1))])) (h' := (107, I, J, mm_rf 19 sp rr w nw)) 1 rfl ?_
          cases e
          exact mm_T.ret rfl ⟨rfl, rfl⟩
