set_option maxRecDepth 100000 in
set_option maxHeartbeats 4000000 in
theorem tlX10_grow_L73 (d : Nat) (Q : Option Value → mm_H → Prop) : ∀ (n : Nat) (y1 : Int32) (y2 : Int32) (y3 : Int32) (y4 : Int32) (I : Nat → Nat → Int32) (J : Nat → Nat → Int64) (rv sp rr w nw : Nat), (rv = 3 ∨ rv = 19) → ∀ (out : (Nat → Nat → Int32)), fX10_grow_L73 n y1 y2 y3 y4 I rv = some out → mm_T none (d + 4) 146 (94, [some (.ref 54), some (.int y1), some (.int y2), some (.int y3), none], []) (107, out, J, mm_rf rv sp rr w nw) Q → mm_T none (d + 4) 146 (73, [some (.ref 54), some (.int y1), some (.int y2), some (.int y3), some (.int y4)], []) (107, I, J, mm_rf rv sp rr w nw) Q := by
  intro n
  induction n with
  | zero =>
    intro y1 y2 y3 y4 I J rv sp rr w nw hrv out e k
    rw [fX10_grow_L73] at e; cases e
  | succ n ih =>
    intro y1 y2 y3 y4 I J rv sp rr w nw hrv out e k
    rcases hrv with rfl | rfl
    · rw [fX10_grow_L73] at e
      refine mm_T.seg (f' := (78, [some (.ref 54), some (.int y1), some (.int y2), some (.int y3), some (.int y4)], [(.int (y1 + y2)), (.int y4)])) (h' := (107, I, J, mm_rf 3 sp rr w nw)) 4 rfl ?_
      refine mm_T.br (c := y4 < (y1 + y2)) (a := ((81, [some (.ref 54), some (.int y1), some (.int y2), some (.int y3), some (.int y4)], []), (107, I, J, mm_rf 3 sp rr w nw))) (b := ((94, [some (.ref 54), some (.int y1), some (.int y2), some (.int y3), some (.int y4)], []), (107, I, J, mm_rf 3 sp rr w nw))) rfl (fun h2197 => ?_) (fun h2197 => ?_)
      · rw [if_pos h2197] at e
        refine mm_T.seg (f' := (85, [some (.ref 54), some (.int y1), some (.int y2), some (.int y3), some (.int y4)], [(.int y3), (.int y4), (.ref 54)])) (h' := (107, I, J, mm_rf 3 sp rr w nw)) 3 rfl ?_
        obtain ⟨o2198, eo2198, e⟩ := mm_bind e
        refine mm_T.call (t := 147) (as := [(.ref 54), (.int y4), (.int y3)]) (f' := (88, [some (.ref 54), some (.int y1), some (.int y2), some (.int y3), some (.int y4)], [])) rfl (tX10_branch (d + 0) n y4 y3 I J 3 sp rr w nw (Or.inl rfl) o2198 eo2198) (fun v h hq => ?_)
        obtain ⟨rfl, rfl⟩ := hq
        refine mm_T.seg (f' := (73, [some (.ref 54), some (.int y1), some (.int y2), some (.int y3), some (.int (y4 + 1))], [])) (h' := (107, o2198, J, mm_rf 3 sp rr w nw)) 2 rfl ?_
        refine mm_T.mask [true, true, true, true, true] ?_
        exact ih y1 y2 y3 (y4 + 1) o2198 J 3 sp rr w nw (Or.inl rfl) out e k
      · rw [if_neg h2197] at e
        cases e
        refine mm_T.mask [true, true, true, true, false] ?_
        exact k
    · rw [fX10_grow_L73] at e
      refine mm_T.seg (f' := (78, [some (.ref 54), some (.int y1), some (.int y2), some (.int y3), some (.int y4)], [(.int (y1 + y2)), (.int y4)])) (h' := (107, I, J, mm_rf 19 sp rr w nw)) 4 rfl ?_
      refine mm_T.br (c := y4 < (y1 + y2)) (a := ((81, [some (.ref 54), some (.int y1), some (.int y2), some (.int y3), some (.int y4)], []), (107, I, J, mm_rf 19 sp rr w nw))) (b := ((94, [some (.ref 54), some (.int y1), some (.int y2), some (.int y3), some (.int y4)], []), (107, I, J, mm_rf 19 sp rr w nw))) rfl (fun h2197 => ?_) (fun h2197 => ?_)
      · rw [if_pos h2197] at e
        refine mm_T.seg (f' := (85, [some (.ref 54), some (.int y1), some (.int y2), some (.int y3), some (.int y4)], [(.int y3), (.int y4), (.ref 54)])) (h' := (107, I, J, mm_rf 19 sp rr w nw)) 3 rfl ?_
        obtain ⟨o2198, eo2198, e⟩ := mm_bind e
        refine mm_T.call (t := 147) (as := [(.ref 54), (.int y4), (.int y3)]) (f' := (88, [some (.ref 54), some (.int y1), some (.int y2), some (.int y3), some (.int y4)], [])) rfl (tX10_branch (d + 0) n y4 y3 I J 19 sp rr w nw (Or.inr rfl) o2198 eo2198) (fun v h hq => ?_)
        obtain ⟨rfl, rfl⟩ := hq
        refine mm_T.seg (f' := (73, [some (.ref 54), some (.int y1), some (.int y2), some (.int y3), some (.int (y4 + 1))], [])) (h' := (107, o2198, J, mm_rf 19 sp rr w nw)) 2 rfl ?_
        refine mm_T.mask [true, true, true, true, true] ?_
        exact ih y1 y2 y3 (y4 + 1) o2198 J 19 sp rr w nw (Or.inr rfl) out e k
      · rw [if_neg h2197] at e
        cases e
        refine mm_T.mask [true, true, true, true, false] ?_
        exact k
set_option maxRecDepth 100000 in
set_option maxHeartbeats 4000000 in
theorem tlX10_grow_L56 (d : Nat) (Q : Option Value → mm_H → Prop) : ∀ (n : Nat) (y1 : Int32) (y2 : Int32) (y3 : Int32) (I : Nat → Nat → Int32) (J : Nat → Nat → Int64) (rv sp rr w nw : Nat), (rv = 3 ∨ rv = 19) → ∀ (out : (Nat → Nat → Int32)), fX10_grow_L56 n y1 y2 y3 I rv = some out → mm_T none (d + 4) 146 (108, [none, none, none, none, none], []) (107, out, J, mm_rf rv sp rr w nw) Q → mm_T none (d + 4) 146 (56, [some (.ref 54), some (.int y1), some (.int y2), some (.int y3), none], []) (107, I, J, mm_rf rv sp rr w nw) Q := by
  intro n
  induction n with
  | zero =>
    intro y1 y2 y3 I J rv sp rr w nw hrv out e k
    rw [fX10_grow_L56] at e; cases e
  | succ n ih =>
    intro y1 y2 y3 I J rv sp rr w nw hrv out e k
    rcases hrv with rfl | rfl
    · rw [fX10_grow_L56] at e
      refine mm_T.seg (f' := (61, [some (.ref 54), some (.int y1), some (.int y2), some (.int y3), none], [(.ref 18), (.int y3)])) (h' := (107, I, J, mm_rf 3 sp rr w nw)) 3 rfl ?_
      refine mm_T.seg (f' := (67, [some (.ref 54), some (.int y1), some (.int y2), some (.int y3), none], [(.int (I 3 1)), (.int y3)])) (h' := (107, I, J, mm_rf 3 sp rr w nw)) 2 rfl ?_
      refine mm_T.br (c := y3 < (I 3 1)) (a := ((70, [some (.ref 54), some (.int y1), some (.int y2), some (.int y3), none], []), (107, I, J, mm_rf 3 sp rr w nw))) (b := ((108, [some (.ref 54), some (.int y1), some (.int y2), some (.int y3), none], []), (107, I, J, mm_rf 3 sp rr w nw))) rfl (fun h2200 => ?_) (fun h2200 => ?_)
      · rw [if_pos h2200] at e
        refine mm_T.seg (f' := (73, [some (.ref 54), some (.int y1), some (.int y2), some (.int y3), some (.int y1)], [])) (h' := (107, I, J, mm_rf 3 sp rr w nw)) 2 rfl ?_
        refine mm_T.mask [true, true, true, true, true] ?_
        obtain ⟨o2201, eo2201, e⟩ := mm_bind e
        refine tlX10_grow_L73 d _ n y1 y2 y3 y1 I J 3 sp rr w nw (Or.inl rfl) o2201 eo2201 ?_
        refine mm_T.seg (f' := (56, [some (.ref 54), some (.int (y1 + y2)), some (.int (y2 * 3)), some (.int (y3 + 1)), none], [])) (h' := (107, o2201, J, mm_rf 3 sp rr w nw)) 10 rfl ?_
        refine mm_T.mask [true, true, true, true, false] ?_
        exact ih (y1 + y2) (y2 * 3) (y3 + 1) o2201 J 3 sp rr w nw (Or.inl rfl) out e k
      · rw [if_neg h2200] at e
        cases e
        refine mm_T.mask [false, false, false, false, false] ?_
        exact k
    · rw [fX10_grow_L56] at e
      refine mm_T.seg (f' := (61, [some (.ref 54), some (.int y1), some (.int y2), some (.int y3), none], [(.ref 18), (.int y3)])) (h' := (107, I, J, mm_rf 19 sp rr w nw)) 3 rfl ?_
      refine mm_T.seg (f' := (67, [some (.ref 54), some (.int y1), some (.int y2), some (.int y3), none], [(.int (I 19 1)), (.int y3)])) (h' := (107, I, J, mm_rf 19 sp rr w nw)) 2 rfl ?_
      refine mm_T.br (c := y3 < (I 19 1)) (a := ((70, [some (.ref 54), some (.int y1), some (.int y2), some (.int y3), none], []), (107, I, J, mm_rf 19 sp rr w nw))) (b := ((108, [some (.ref 54), some (.int y1), some (.int y2), some (.int y3), none], []), (107, I, J, mm_rf 19 sp rr w nw))) rfl (fun h2200 => ?_) (fun h2200 => ?_)
      · rw [if_pos h2200] at e
        refine mm_T.seg (f' := (73, [some (.ref 54), some (.int y1), some (.int y2), some (.int y3), some (.int y1)], [])) (h' := (107, I, J, mm_rf 19 sp rr w nw)) 2 rfl ?_
        refine mm_T.mask [true, true, true, true, true] ?_
        obtain ⟨o2201, eo2201, e⟩ := mm_bind e
        refine tlX10_grow_L73 d _ n y1 y2 y3 y1 I J 19 sp rr w nw (Or.inr rfl) o2201 eo2201 ?_
        refine mm_T.seg (f' := (56, [some (.ref 54), some (.int (y1 + y2)), some (.int (y2 * 3)), some (.int (y3 + 1)), none], [])) (h' := (107, o2201, J, mm_rf 19 sp rr w nw)) 10 rfl ?_
        refine mm_T.mask [true, true, true, true, false] ?_
        exact ih (y1 + y2) (y2 * 3) (y3 + 1) o2201 J 19 sp rr w nw (Or.inr rfl) out e k
      · rw [if_neg h2200] at e
        cases e
        refine mm_T.mask [false, false, false, false, false] ?_
        exact k
set_option maxRecDepth 100000 in
set_option maxHeartbeats 4000000 in
theorem tX10_grow (d n : Nat) (I : Nat → Nat → Int32) (J : Nat → Nat → Int64) (rv sp rr w nw : Nat) (hrv : rv = 3 ∨ rv = 19) (out : (Nat → Nat → Int32)) (e : fX10_grow n I rv = some out) : mm_T none (d + 4) 146 (mm_ent 146 [(.ref 54)]) (107, I, J, mm_rf rv sp rr w nw) (fun v h => v = none ∧ h = (107, out, J, mm_rf rv sp rr w nw)) := by
  rcases hrv with rfl | rfl
  · unfold fX10_grow at e
    refine mm_T.seg (f' := (4, [some (.ref 54), none, none, none, none], [(.int (I 54 5))])) (h' := (107, I, J, mm_rf 3 sp rr w nw)) 2 rfl ?_
    refine mm_T.br (c := (I 54 5) = 0) (a := ((8, [some (.ref 54), none, none, none, none], []), (107, I, J, mm_rf 3 sp rr w nw))) (b := ((7, [some (.ref 54), none, none, none, none], []), (107, I, J, mm_rf 3 sp rr w nw))) rfl (fun h2183 => ?_) (fun h2183 => ?_)
    · rw [if_pos h2183] at e
      refine mm_T.seg (f' := (17, [some (.ref 54), none, none, none, none], [(.ref 56)])) (h' := (107, (mm_up I 54 5 1), J, mm_rf 3 sp rr w nw)) 5 rfl ?_
      refine mm_T.seg (f' := (22, [some (.ref 54), none, none, none, none], [(.ref 18), (.int 0), (.ref 56)])) (h' := (107, (mm_up I 54 5 1), J, mm_rf 3 sp rr w nw)) 3 rfl ?_
      refine mm_T.seg (f' := (26, [some (.ref 54), none, none, none, none], [(.int 0), (.ref 3), (.int 0), (.ref 56)])) (h' := (107, (mm_up I 54 5 1), J, mm_rf 3 sp rr w nw)) 2 rfl ?_
      obtain ⟨g378, hg378⟩ : ∃ z, fX5_startOf 0 3 (mm_up I 54 5 1) = z := ⟨_, rfl⟩
      try rw [hg378] at e
      refine mm_T.call (t := 78) (as := [(.ref 3), (.int 0)]) (f' := (29, [some (.ref 54), none, none, none, none], [(.int 0), (.ref 56)])) rfl (tX5_startOf (d + 2) 0 3 (mm_up I 54 5 1) J 3 sp rr w nw (Or.inl rfl) g378 hg378) (fun v h hq => ?_)
      obtain ⟨rfl, rfl⟩ := hq
      refine mm_T.call (t := 205) (as := [(.ref 56), (.int 0), (.int g378)]) (f' := (32, [some (.ref 54), none, none, none, none], [])) rfl (t_put _ 56 1093 0 g378 (mm_up I 54 5 1) J (mm_rf 3 sp rr w nw) rfl rfl) (fun v h hq => ?_)
      obtain ⟨rfl, rfl⟩ := hq
      refine mm_T.seg (f' := (36, [some (.ref 54), none, none, none, none], [(.ref 57)])) (h' := (107, (mf_put (mm_up I 54 5 1) 56 1093 0 g378), J, mm_rf 3 sp rr w nw)) 2 rfl ?_
      refine mm_T.seg (f' := (38, [some (.ref 54), none, none, none, none], [(.int 0), (.int 0), (.ref 57)])) (h' := (107, (mf_put (mm_up I 54 5 1) 56 1093 0 g378), J, mm_rf 3 sp rr w nw)) 2 rfl ?_
      refine mm_T.call (t := 205) (as := [(.ref 57), (.int 0), (.int 0)]) (f' := (41, [some (.ref 54), none, none, none, none], [])) rfl (t_put _ 57 1093 0 0 (mf_put (mm_up I 54 5 1) 56 1093 0 g378) J (mm_rf 3 sp rr w nw) rfl rfl) (fun v h hq => ?_)
      obtain ⟨rfl, rfl⟩ := hq
      refine mm_T.seg (f' := (45, [some (.ref 54), none, none, none, none], [(.ref 58)])) (h' := (107, (mf_put (mf_put (mm_up I 54 5 1) 56 1093 0 g378) 57 1093 0 0), J, mm_rf 3 sp rr w nw)) 2 rfl ?_
      refine mm_T.seg (f' := (47, [some (.ref 54), none, none, none, none], [(.int 0), (.int 0), (.ref 58)])) (h' := (107, (mf_put (mf_put (mm_up I 54 5 1) 56 1093 0 g378) 57 1093 0 0), J, mm_rf 3 sp rr w nw)) 2 rfl ?_
      refine mm_T.call (t := 205) (as := [(.ref 58), (.int 0), (.int 0)]) (f' := (50, [some (.ref 54), none, none, none, none], [])) rfl (t_put _ 58 1093 0 0 (mf_put (mf_put (mm_up I 54 5 1) 56 1093 0 g378) 57 1093 0 0) J (mm_rf 3 sp rr w nw) rfl rfl) (fun v h hq => ?_)
      obtain ⟨rfl, rfl⟩ := hq
      refine mm_T.seg (f' := (56, [some (.ref 54), some (.int 0), some (.int 1), some (.int 0), none], [])) (h' := (107, (mf_put (mf_put (mf_put (mm_up I 54 5 1) 56 1093 0 g378) 57 1093 0 0) 58 1093 0 0), J, mm_rf 3 sp rr w nw)) 6 rfl ?_
      refine mm_T.mask [true, true, true, true, false] ?_
      obtain ⟨o2202, eo2202, e⟩ := mm_bind e
      refine tlX10_grow_L56 d _ n 0 1 0 (mf_put (mf_put (mf_put (mm_up I 54 5 1) 56 1093 0 g378) 57 1093 0 0) 58 1093 0 0) J 3 sp rr w nw (Or.inl rfl) o2202 eo2202 ?_
      cases e
      exact mm_T.ret rfl ⟨rfl, rfl⟩
    · rw [if_neg h2183] at e
      cases e
      exact mm_T.ret rfl ⟨rfl, rfl⟩
  · unfold fX10_grow at e
    refine mm_T.seg (f' := (4, [some (.ref 54), none, none, none, none], [(.int (I 54 5))])) (h' := (107, I, J, mm_rf 19 sp rr w nw)) 2 rfl ?_
    refine mm_T.br (c := (I 54 5) = 0) (a := ((8, [some (.ref 54), none, none, none, none], []), (107, I, J, mm_rf 19 sp rr w nw))) (b := ((7, [some (.ref 54), none, none, none, none], []), (107, I, J, mm_rf 19 sp rr w nw))) rfl (fun h2183 => ?_) (fun h2183 => ?_)
    · rw [if_pos h2183] at e
      refine mm_T.seg (f' := (17, [some (.ref 54), none, none, none, none], [(.ref 56)])) (h' := (107, (mm_up I 54 5 1), J, mm_rf 19 sp rr w nw)) 5 rfl ?_
      refine mm_T.seg (f' := (22, [some (.ref 54), none, none, none, none], [(.ref 18), (.int 0), (.ref 56)])) (h' := (107, (mm_up I 54 5 1), J, mm_rf 19 sp rr w nw)) 3 rfl ?_
      refine mm_T.seg (f' := (26, [some (.ref 54), none, none, none, none], [(.int 0), (.ref 19), (.int 0), (.ref 56)])) (h' := (107, (mm_up I 54 5 1), J, mm_rf 19 sp rr w nw)) 2 rfl ?_
      obtain ⟨g378, hg378⟩ : ∃ z, fX5_startOf 0 19 (mm_up I 54 5 1) = z := ⟨_, rfl⟩
      try rw [hg378] at e
      refine mm_T.call (t := 78) (as := [(.ref 19), (.int 0)]) (f' := (29, [some (.ref 54), none, none, none, none], [(.int 0), (.ref 56)])) rfl (tX5_startOf (d + 2) 0 19 (mm_up I 54 5 1) J 19 sp rr w nw (Or.inr rfl) g378 hg378) (fun v h hq => ?_)
      obtain ⟨rfl, rfl⟩ := hq
      refine mm_T.call (t := 205) (as := [(.ref 56), (.int 0), (.int g378)]) (f' := (32, [some (.ref 54), none, none, none, none], [])) rfl (t_put _ 56 1093 0 g378 (mm_up I 54 5 1) J (mm_rf 19 sp rr w nw) rfl rfl) (fun v h hq => ?_)
      obtain ⟨rfl, rfl⟩ := hq
      refine mm_T.seg (f' := (36, [some (.ref 54), none, none, none, none], [(.ref 57)])) (h' := (107, (mf_put (mm_up I 54 5 1) 56 1093 0 g378), J, mm_rf 19 sp rr w nw)) 2 rfl ?_
      refine mm_T.seg (f' := (38, [some (.ref 54), none, none, none, none], [(.int 0), (.int 0), (.ref 57)])) (h' := (107, (mf_put (mm_up I 54 5 1) 56 1093 0 g378), J, mm_rf 19 sp rr w nw)) 2 rfl ?_
      refine mm_T.call (t := 205) (as := [(.ref 57), (.int 0), (.int 0)]) (f' := (41, [some (.ref 54), none, none, none, none], [])) rfl (t_put _ 57 1093 0 0 (mf_put (mm_up I 54 5 1) 56 1093 0 g378) J (mm_rf 19 sp rr w nw) rfl rfl) (fun v h hq => ?_)
      obtain ⟨rfl, rfl⟩ := hq
      refine mm_T.seg (f' := (45, [some (.ref 54), none, none, none, none], [(.ref 58)])) (h' := (107, (mf_put (mf_put (mm_up I 54 5 1) 56 1093 0 g378) 57 1093 0 0), J, mm_rf 19 sp rr w nw)) 2 rfl ?_
      refine mm_T.seg (f' := (47, [some (.ref 54), none, none, none, none], [(.int 0), (.int 0), (.ref 58)])) (h' := (107, (mf_put (mf_put (mm_up I 54 5 1) 56 1093 0 g378) 57 1093 0 0), J, mm_rf 19 sp rr w nw)) 2 rfl ?_
      refine mm_T.call (t := 205) (as := [(.ref 58), (.int 0), (.int 0)]) (f' := (50, [some (.ref 54), none, none, none, none], [])) rfl (t_put _ 58 1093 0 0 (mf_put (mf_put (mm_up I 54 5 1) 56 1093 0 g378) 57 1093 0 0) J (mm_rf 19 sp rr w nw) rfl rfl) (fun v h hq => ?_)
      obtain ⟨rfl, rfl⟩ := hq
      refine mm_T.seg (f' := (56, [some (.ref 54), some (.int 0), some (.int 1), some (.int 0), none], [])) (h' := (107, (mf_put (mf_put (mf_put (mm_up I 54 5 1) 56 1093 0 g378) 57 1093 0 0) 58 1093 0 0), J, mm_rf 19 sp rr w nw)) 6 rfl ?_
      refine mm_T.mask [true, true, true, true, false] ?_
      obtain ⟨o2202, eo2202, e⟩ := mm_bind e
      refine tlX10_grow_L56 d _ n 0 1 0 (mf_put (mf_put (mf_put (mm_up I 54 5 1) 56 1093 0 g378) 57 1093 0 0) 58 1093 0 0) J 19 sp rr w nw (Or.inr rfl) o2202 eo2202 ?_
      cases e
      exact mm_T.ret rfl ⟨rfl, rfl⟩
    · rw [if_neg h2183] at e
      cases e
      exact mm_T.ret rfl ⟨rfl, rfl⟩
set_option maxRecDepth 100000 in
set_option maxHeartbeats 4000000 in
theorem tX10_countsAt (d : Nat) (x1 : Int32) (x2 : Int32) (I : Nat → Nat → Int32) (J : Nat → Nat → Int64) (rv sp rr w nw : Nat) (out : Int32) (e : fX10_countsAt x1 x2 I = out) : mm_T none (d + 2) 148 (mm_ent 148 [(.ref 54), (.int x1), (.int x2)]) (107, I, J, mm_rf rv sp rr w nw) (fun v h => v = some (.int out) ∧ h = (107, I, J, mm_rf rv sp rr w nw)) := by
  unfold fX10_countsAt at e
  refine mm_T.seg (f' := (3, [some (.ref 54), some (.int x1), some (.int x2), none], [(.int 5), (.int x1), (.ref 54)])) (h' := (107, I, J, mm_rf rv sp rr w nw)) 3 rfl ?_
  obtain ⟨g386, hg386⟩ : ∃ z, fX10_get x1 5 I = z := ⟨_, rfl⟩
  try rw [hg386] at e
  refine mm_T.call (t := 141) (as := [(.ref 54), (.int x1), (.int 5)]) (f' := (6, [some (.ref 54), some (.int x1), some (.int x2), none], [])) rfl (tX10_get (d + 0) x1 5 I J rv sp rr w nw g386 hg386) (fun v h hq => ?_)
  obtain ⟨rfl, rfl⟩ := hq
  refine mm_T.seg (f' := (10, [some (.ref 54), some (.int x1), some (.int x2), some (.int g386)], [(.int 4), (.int x1), (.ref 54)])) (h' := (107, I, J, mm_rf rv sp rr w nw)) 4 rfl ?_
  obtain ⟨g387, hg387⟩ : ∃ z, fX10_get x1 4 I = z := ⟨_, rfl⟩
  try rw [hg387] at e
  refine mm_T.call (t := 141) (as := [(.ref 54), (.int x1), (.int 4)]) (f' := (13, [some (.ref 54), some (.int x1), some (.int x2), some (.int g386)], [])) rfl (tX10_get (d + 0) x1 4 I J rv sp rr w nw g387 hg387) (fun v h hq => ?_)
  obtain ⟨rfl, rfl⟩ := hq
  refine mm_T.seg (f' := (14, [some (.ref 54), some (.int x1), some (.int x2), some (.int g386)], [(.int x2), (.int g387)])) (h' := (107, I, J, mm_rf rv sp rr w nw)) 1 rfl ?_
  refine mm_T.br (c := x2 < g387) (a := ((31, [some (.ref 54), some (.int x1), some (.int x2), some (.int g386)], []), (107, I, J, mm_rf rv sp rr w nw))) (b := ((17, [some (.ref 54), some (.int x1), some (.int x2), some (.int g386)], []), (107, I, J, mm_rf rv sp rr w nw))) rfl (fun h2203 => ?_) (fun h2203 => ?_)
  · rw [if_pos h2203] at e
    refine mm_T.seg (f' := (32, [some (.ref 54), some (.int x1), some (.int x2), some (.int g386)], [(.int 0)])) (h' := (107, I, J, mm_rf rv sp rr w nw)) 1 rfl ?_
    cases e
    exact mm_T.ret rfl ⟨rfl, rfl⟩
  · rw [if_neg h2203] at e
    refine mm_T.seg (f' := (19, [some (.ref 54), some (.int x1), some (.int x2), some (.int g386)], [(.int (-1)), (.int g386)])) (h' := (107, I, J, mm_rf rv sp rr w nw)) 2 rfl ?_
    refine mm_T.br (c := g386 = (-1)) (a := ((27, [some (.ref 54), some (.int x1), some (.int x2), some (.int g386)], []), (107, I, J, mm_rf rv sp rr w nw))) (b := ((22, [some (.ref 54), some (.int x1), some (.int x2), some (.int g386)], []), (107, I, J, mm_rf rv sp rr w nw))) rfl (fun h2204 => ?_) (fun h2204 => ?_)
    · rw [if_pos h2204] at e
      refine mm_T.seg (f' := (32, [some (.ref 54), some (.int x1), some (.int x2), some (.int g386)], [(.int 1)])) (h' := (107, I, J, mm_rf rv sp rr w nw)) 2 rfl ?_
      cases e
      exact mm_T.ret rfl ⟨rfl, rfl⟩
    · rw [if_neg h2204] at e
      refine mm_T.seg (f' := (24, [some (.ref 54), some (.int x1), some (.int x2), some (.int g386)], [(.int x2), (.int g386)])) (h' := (107, I, J, mm_rf rv sp rr w nw)) 2 rfl ?_
      refine mm_T.br (c := x2 < g386) (a := ((27, [some (.ref 54), some (.int x1), some (.int x2), some (.int g386)], []), (107, I, J, mm_rf rv sp rr w nw))) (b := ((31, [some (.ref 54), some (.int x1), some (.int x2), some (.int g386)], []), (107, I, J, mm_rf rv sp rr w nw))) rfl (fun h2205 => ?_) (fun h2205 => ?_)
      · rw [if_pos h2205] at e
        refine mm_T.seg (f' := (32, [some (.ref 54), some (.int x1), some (.int x2), some (.int g386)], [(.int 1)])) (h' := (107, I, J, mm_rf rv sp rr w nw)) 2 rfl ?_
        cases e
        exact mm_T.ret rfl ⟨rfl, rfl⟩
      · rw [if_neg h2205] at e
        refine mm_T.seg (f' := (32, [some (.ref 54), some (.int x1), some (.int x2), some (.int g386)], [(.int 0)])) (h' := (107, I, J, mm_rf rv sp rr w nw)) 1 rfl ?_
        cases e
        exact mm_T.ret rfl ⟨rfl, rfl⟩
set_option maxRecDepth 100000 in
set_option maxHeartbeats 4000000 in
theorem tX10_boundOf (d : Nat) (x0 : Int32) (x1 : Int32) (I : Nat → Nat → Int32) (J : Nat → Nat → Int64) (rv sp rr w nw : Nat) (out : Int32) (e : fX10_boundOf x0 x1 = out) : mm_T none (d + 0) 149 (mm_ent 149 [(.int x0), (.int x1)]) (107, I, J, mm_rf rv sp rr w nw) (fun v h => v = some (.int out) ∧ h = (107, I, J, mm_rf rv sp rr w nw)) := by
  unfold fX10_boundOf at e
  refine mm_T.seg (f' := (6, [some (.int x0), some (.int x1)], [(.int ((x0 * 7) + x1))])) (h' := (107, I, J, mm_rf rv sp rr w nw)) 5 rfl ?_
  cases e
  exact mm_T.ret rfl ⟨rfl, rfl⟩
set_option maxRecDepth 100000 in
set_option maxHeartbeats 4000000 in
theorem tlX10_narrow_L19 (d : Nat) (Q : Option Value → mm_H → Prop) : ∀ (n : Nat) (y1 : Int32) (y2 : Int32) (I : Nat → Nat → Int32) (J : Nat → Nat → Int64) (rv sp rr w nw : Nat), ∀ (out : (Nat → Nat → Int32)), fX10_narrow_L19 n y1 y2 I = some out → mm_T none (d + 3) 150 (125, [none, none, none, none, none], []) (107, out, J, mm_rf rv sp rr w nw) Q → mm_T none (d + 3) 150 (19, [some (.ref 54), some (.int y1), some (.int y2), none, none], []) (107, I, J, mm_rf rv sp rr w nw) Q := by
  intro n
  induction n with
  | zero =>
    intro y1 y2 I J rv sp rr w nw out e k
    rw [fX10_narrow_L19] at e; cases e
  | succ n ih =>
    intro y1 y2 I J rv sp rr w nw out e k
    rw [fX10_narrow_L19] at e
    refine mm_T.seg (f' := (24, [some (.ref 54), some (.int y1), some (.int y2), none, none], [(.int (I 54 9)), (.int y2)])) (h' := (107, I, J, mm_rf rv sp rr w nw)) 3 rfl ?_
    refine mm_T.br (c := y2 < (I 54 9)) (a := ((27, [some (.ref 54), some (.int y1), some (.int y2), none, none], []), (107, I, J, mm_rf rv sp rr w nw))) (b := ((125, [some (.ref 54), some (.int y1), some (.int y2), none, none], []), (107, I, J, mm_rf rv sp rr w nw))) rfl (fun h2206 => ?_) (fun h2206 => ?_)
    · rw [if_pos h2206] at e
      refine mm_T.seg (f' := (30, [some (.ref 54), some (.int y1), some (.int y2), none, none], [(.int 0), (.int y2), (.ref 54)])) (h' := (107, I, J, mm_rf rv sp rr w nw)) 3 rfl ?_
      obtain ⟨g388, hg388⟩ : ∃ z, fX10_get y2 0 I = z := ⟨_, rfl⟩
      try rw [hg388] at e
      refine mm_T.call (t := 141) (as := [(.ref 54), (.int y2), (.int 0)]) (f' := (33, [some (.ref 54), some (.int y1), some (.int y2), none, none], [])) rfl (tX10_get (d + 1) y2 0 I J rv sp rr w nw g388 hg388) (fun v h hq => ?_)
      obtain ⟨rfl, rfl⟩ := hq
      refine mm_T.seg (f' := (36, [some (.ref 54), some (.int y1), some (.int y2), none, none], [(.int 1), (.int y2), (.ref 54), (.int g388)])) (h' := (107, I, J, mm_rf rv sp rr w nw)) 3 rfl ?_
      obtain ⟨g389, hg389⟩ : ∃ z, fX10_get y2 1 I = z := ⟨_, rfl⟩
      try rw [hg389] at e
      refine mm_T.call (t := 141) (as := [(.ref 54), (.int y2), (.int 1)]) (f' := (39, [some (.ref 54), some (.int y1), some (.int y2), none, none], [(.int g388)])) rfl (tX10_get (d + 1) y2 1 I J rv sp rr w nw g389 hg389) (fun v h hq => ?_)
      obtain ⟨rfl, rfl⟩ := hq
      obtain ⟨g390, hg390⟩ : ∃ z, fX10_boundOf g388 g389 = z := ⟨_, rfl⟩
      try rw [hg390] at e
      refine mm_T.call (t := 149) (as := [(.int g388), (.int g389)]) (f' := (42, [some (.ref 54), some (.int y1), some (.int y2), none, none], [])) rfl (tX10_boundOf (d + 2) g388 g389 I J rv sp rr w nw g390 hg390) (fun v h hq => ?_)
      obtain ⟨rfl, rfl⟩ := hq
      refine mm_T.seg (f' := (46, [some (.ref 54), some (.int y1), some (.int y2), some (.int g390), none], [(.int 2), (.int y2), (.ref 54)])) (h' := (107, I, J, mm_rf rv sp rr w nw)) 4 rfl ?_
      obtain ⟨g391, hg391⟩ : ∃ z, fX10_get y2 2 I = z := ⟨_, rfl⟩
      try rw [hg391] at e
      refine mm_T.call (t := 141) (as := [(.ref 54), (.int y2), (.int 2)]) (f' := (49, [some (.ref 54), some (.int y1), some (.int y2), some (.int g390), none], [])) rfl (tX10_get (d + 1) y2 2 I J rv sp rr w nw g391 hg391) (fun v h hq => ?_)
      obtain ⟨rfl, rfl⟩ := hq
      refine mm_T.seg (f' := (54, [some (.ref 54), some (.int y1), some (.int y2), some (.int g390), some (.int g391)], [(.int y1), (.int y2), (.ref 54)])) (h' := (107, I, J, mm_rf rv sp rr w nw)) 4 rfl ?_
      obtain ⟨g392, hg392⟩ : ∃ z, fX10_countsAt y2 y1 I = z := ⟨_, rfl⟩
      try rw [hg392] at e
      refine mm_T.call (t := 148) (as := [(.ref 54), (.int y2), (.int y1)]) (f' := (57, [some (.ref 54), some (.int y1), some (.int y2), some (.int g390), some (.int g391)], [])) rfl (tX10_countsAt (d + 0) y2 y1 I J rv sp rr w nw g392 hg392) (fun v h hq => ?_)
      obtain ⟨rfl, rfl⟩ := hq
      refine mm_T.br (c := g392 = 0) (a := ((60, [some (.ref 54), some (.int y1), some (.int y2), some (.int g390), some (.int g391)], []), (107, I, J, mm_rf rv sp rr w nw))) (b := ((63, [some (.ref 54), some (.int y1), some (.int y2), some (.int g390), some (.int g391)], []), (107, I, J, mm_rf rv sp rr w nw))) rfl (fun h2207 => ?_) (fun h2207 => ?_)
      · rw [if_pos h2207] at e
        refine mm_T.seg (f' := (19, [some (.ref 54), some (.int y1), some (.int (y2 + 1)), some (.int g390), some (.int g391)], [])) (h' := (107, I, J, mm_rf rv sp rr w nw)) 3 rfl ?_
        refine mm_T.mask [true, true, true, false, false] ?_
        exact ih y1 (y2 + 1) I J rv sp rr w nw out e k
      · rw [if_neg h2207] at e
        refine mm_T.seg (f' := (66, [some (.ref 54), some (.int y1), some (.int y2), some (.int g390), some (.int g391)], [(.int 3), (.int y2), (.ref 54)])) (h' := (107, I, J, mm_rf rv sp rr w nw)) 3 rfl ?_
        obtain ⟨g393, hg393⟩ : ∃ z, fX10_get y2 3 I = z := ⟨_, rfl⟩
        try rw [hg393] at e
        refine mm_T.call (t := 141) (as := [(.ref 54), (.int y2), (.int 3)]) (f' := (69, [some (.ref 54), some (.int y1), some (.int y2), some (.int g390), some (.int g391)], [])) rfl (tX10_get (d + 1) y2 3 I J rv sp rr w nw g393 hg393) (fun v h hq => ?_)
        obtain ⟨rfl, rfl⟩ := hq
        refine mm_T.br (c := g393 = 0) (a := ((96, [some (.ref 54), some (.int y1), some (.int y2), some (.int g390), some (.int g391)], []), (107, I, J, mm_rf rv sp rr w nw))) (b := ((72, [some (.ref 54), some (.int y1), some (.int y2), some (.int g390), some (.int g391)], []), (107, I, J, mm_rf rv sp rr w nw))) rfl (fun h2208 => ?_) (fun h2208 => ?_)
        · rw [if_pos h2208] at e
          refine mm_T.seg (f' := (100, [some (.ref 54), some (.int y1), some (.int y2), some (.int g390), some (.int g391)], [(.ref 60)])) (h' := (107, I, J, mm_rf rv sp rr w nw)) 2 rfl ?_
          refine mm_T.seg (f' := (105, [some (.ref 54), some (.int y1), some (.int y2), some (.int g390), some (.int g391)], [(.ref 60), (.int g390), (.ref 60)])) (h' := (107, I, J, mm_rf rv sp rr w nw)) 3 rfl ?_
          refine mm_T.seg (f' := (106, [some (.ref 54), some (.int y1), some (.int y2), some (.int g390), some (.int g391)], [(.int g390), (.ref 60), (.int g390), (.ref 60)])) (h' := (107, I, J, mm_rf rv sp rr w nw)) 1 rfl ?_
          refine mm_T.call (t := 204) (as := [(.ref 60), (.int g390)]) (f' := (109, [some (.ref 54), some (.int y1), some (.int y2), some (.int g390), some (.int g391)], [(.int g390), (.ref 60)])) rfl (t_pick _ 60 14 g390 I J (mm_rf rv sp rr w nw) rfl rfl) (fun v h hq => ?_)
          obtain ⟨rfl, rfl⟩ := hq
          refine mm_T.seg (f' := (113, [some (.ref 54), some (.int y1), some (.int y2), some (.int g390), some (.int g391)], [(.int (g391 - 1)), (.int (mf_pick I 60 14 g390)), (.int g390), (.ref 60)])) (h' := (107, I, J, mm_rf rv sp rr w nw)) 3 rfl ?_
          obtain ⟨g394, hg394⟩ : ∃ z, fJ9_min (mf_pick I 60 14 g390) (g391 - 1) = z := ⟨_, rfl⟩
          try rw [hg394] at e
          refine mm_T.call (t := 348) (as := [(.int (mf_pick I 60 14 g390)), (.int (g391 - 1))]) (f' := (116, [some (.ref 54), some (.int y1), some (.int y2), some (.int g390), some (.int g391)], [(.int g390), (.ref 60)])) rfl (tJ9_min (d + 2) (mf_pick I 60 14 g390) (g391 - 1) I J rv sp rr w nw g394 hg394) (fun v h hq => ?_)
          obtain ⟨rfl, rfl⟩ := hq
          refine mm_T.call (t := 205) (as := [(.ref 60), (.int g390), (.int g394)]) (f' := (119, [some (.ref 54), some (.int y1), some (.int y2), some (.int g390), some (.int g391)], [])) rfl (t_put _ 60 14 g390 g394 I J (mm_rf rv sp rr w nw) rfl rfl) (fun v h hq => ?_)
          obtain ⟨rfl, rfl⟩ := hq
          refine mm_T.seg (f' := (19, [some (.ref 54), some (.int y1), some (.int (y2 + 1)), some (.int g390), some (.int g391)], [])) (h' := (107, (mf_put I 60 14 g390 g394), J, mm_rf rv sp rr w nw)) 2 rfl ?_
          refine mm_T.mask [true, true, true, false, false] ?_
          exact ih y1 (y2 + 1) (mf_put I 60 14 g390 g394) J rv sp rr w nw out e k
        · rw [if_neg h2208] at e
          refine mm_T.seg (f' := (76, [some (.ref 54), some (.int y1), some (.int y2), some (.int g390), some (.int g391)], [(.ref 59)])) (h' := (107, I, J, mm_rf rv sp rr w nw)) 2 rfl ?_
          refine mm_T.seg (f' := (81, [some (.ref 54), some (.int y1), some (.int y2), some (.int g390), some (.int g391)], [(.ref 59), (.int g390), (.ref 59)])) (h' := (107, I, J, mm_rf rv sp rr w nw)) 3 rfl ?_
          refine mm_T.seg (f' := (82, [some (.ref 54), some (.int y1), some (.int y2), some (.int g390), some (.int g391)], [(.int g390), (.ref 59), (.int g390), (.ref 59)])) (h' := (107, I, J, mm_rf rv sp rr w nw)) 1 rfl ?_
          refine mm_T.call (t := 204) (as := [(.ref 59), (.int g390)]) (f' := (85, [some (.ref 54), some (.int y1), some (.int y2), some (.int g390), some (.int g391)], [(.int g390), (.ref 59)])) rfl (t_pick _ 59 14 g390 I J (mm_rf rv sp rr w nw) rfl rfl) (fun v h hq => ?_)
          obtain ⟨rfl, rfl⟩ := hq
          refine mm_T.seg (f' := (87, [some (.ref 54), some (.int y1), some (.int y2), some (.int g390), some (.int g391)], [(.int g391), (.int (mf_pick I 59 14 g390)), (.int g390), (.ref 59)])) (h' := (107, I, J, mm_rf rv sp rr w nw)) 1 rfl ?_
          obtain ⟨g395, hg395⟩ : ∃ z, fJ9_max (mf_pick I 59 14 g390) g391 = z := ⟨_, rfl⟩
          try rw [hg395] at e
          refine mm_T.call (t := 347) (as := [(.int (mf_pick I 59 14 g390)), (.int g391)]) (f' := (90, [some (.ref 54), some (.int y1), some (.int y2), some (.int g390), some (.int g391)], [(.int g390), (.ref 59)])) rfl (tJ9_max (d + 2) (mf_pick I 59 14 g390) g391 I J rv sp rr w nw g395 hg395) (fun v h hq => ?_)
          obtain ⟨rfl, rfl⟩ := hq
          refine mm_T.call (t := 205) (as := [(.ref 59), (.int g390), (.int g395)]) (f' := (93, [some (.ref 54), some (.int y1), some (.int y2), some (.int g390), some (.int g391)], [])) rfl (t_put _ 59 14 g390 g395 I J (mm_rf rv sp rr w nw) rfl rfl) (fun v h hq => ?_)
          obtain ⟨rfl, rfl⟩ := hq
          refine mm_T.seg (f' := (19, [some (.ref 54), some (.int y1), some (.int (y2 + 1)), some (.int g390), some (.int g391)], [])) (h' := (107, (mf_put I 59 14 g390 g395), J, mm_rf rv sp rr w nw)) 3 rfl ?_
          refine mm_T.mask [true, true, true, false, false] ?_
          exact ih y1 (y2 + 1) (mf_put I 59 14 g390 g395) J rv sp rr w nw out e k
    · rw [if_neg h2206] at e
      cases e
      refine mm_T.mask [false, false, false, false, false] ?_
      exact k
set_option maxRecDepth 100000 in
set_option maxHeartbeats 4000000 in
theorem tX10_narrow (d n : Nat) (x1 : Int32) (I : Nat → Nat → Int32) (J : Nat → Nat → Int64) (rv sp rr w nw : Nat) (out : (Nat → Nat → Int32)) (e : fX10_narrow n x1 I = some out) : mm_T none (d + 3) 150 (mm_ent 150 [(.ref 54), (.int x1)]) (107, I, J, mm_rf rv sp rr w nw) (fun v h => v = none ∧ h = (107, out, J, mm_rf rv sp rr w nw)) := by
  unfold fX10_narrow at e
  refine mm_T.seg (f' := (4, [some (.ref 54), some (.int x1), none, none, none], [(.ref 59)])) (h' := (107, I, J, mm_rf rv sp rr w nw)) 2 rfl ?_
  refine mm_T.seg (f' := (5, [some (.ref 54), some (.int x1), none, none, none], [(.int 0), (.ref 59)])) (h' := (107, I, J, mm_rf rv sp rr w nw)) 1 rfl ?_
  refine mm_T.call (t := 344) (as := [(.ref 59), (.int 0)]) (f' := (8, [some (.ref 54), some (.int x1), none, none, none], [])) rfl (t_fill _ 59 14 0 I J (mm_rf rv sp rr w nw) rfl rfl) (fun v h hq => ?_)
  obtain ⟨rfl, rfl⟩ := hq
  refine mm_T.seg (f' := (12, [some (.ref 54), some (.int x1), none, none, none], [(.ref 60)])) (h' := (107, (mf_fill I 59 14 0), J, mm_rf rv sp rr w nw)) 2 rfl ?_
  refine mm_T.seg (f' := (14, [some (.ref 54), some (.int x1), none, none, none], [(.int 99), (.ref 60)])) (h' := (107, (mf_fill I 59 14 0), J, mm_rf rv sp rr w nw)) 1 rfl ?_
  refine mm_T.call (t := 344) (as := [(.ref 60), (.int 99)]) (f' := (17, [some (.ref 54), some (.int x1), none, none, none], [])) rfl (t_fill _ 60 14 99 (mf_fill I 59 14 0) J (mm_rf rv sp rr w nw) rfl rfl) (fun v h hq => ?_)
  obtain ⟨rfl, rfl⟩ := hq
  refine mm_T.seg (f' := (19, [some (.ref 54), some (.int x1), some (.int 0), none, none], [])) (h' := (107, (mf_fill (mf_fill I 59 14 0) 60 14 99), J, mm_rf rv sp rr w nw)) 2 rfl ?_
  refine mm_T.mask [true, true, true, false, false] ?_
  obtain ⟨o2209, eo2209, e⟩ := mm_bind e
  refine tlX10_narrow_L19 d _ n x1 0 (mf_fill (mf_fill I 59 14 0) 60 14 99) J rv sp rr w nw o2209 eo2209 ?_
  cases e
  exact mm_T.ret rfl ⟨rfl, rfl⟩
set_option maxRecDepth 100000 in
set_option maxHeartbeats 4000000 in
theorem tX10_isWithin (d : Nat) (x1 : Int32) (x2 : Int32) (x3 : Int32) (I : Nat → Nat → Int32) (J : Nat → Nat → Int64) (rv sp rr w nw : Nat) (out : Int32) (e : fX10_isWithin x1 x2 x3 I = out) : mm_T none (d + 1) 151 (mm_ent 151 [(.ref 54), (.int x1), (.int x2), (.int x3)]) (107, I, J, mm_rf rv sp rr w nw) (fun v h => v = some (.int out) ∧ h = (107, I, J, mm_rf rv sp rr w nw)) := by
  unfold fX10_isWithin at e
  refine mm_T.seg (f' := (2, [some (.ref 54), some (.int x1), some (.int x2), some (.int x3), none], [(.int x2), (.int x1)])) (h' := (107, I, J, mm_rf rv sp rr w nw)) 2 rfl ?_
  obtain ⟨g396, hg396⟩ : ∃ z, fX10_boundOf x1 x2 = z := ⟨_, rfl⟩
  try rw [hg396] at e
  refine mm_T.call (t := 149) (as := [(.int x1), (.int x2)]) (f' := (5, [some (.ref 54), some (.int x1), some (.int x2), some (.int x3), none], [])) rfl (tX10_boundOf (d + 0) x1 x2 I J rv sp rr w nw g396 hg396) (fun v h hq => ?_)
  obtain ⟨rfl, rfl⟩ := hq
  refine mm_T.seg (f' := (12, [some (.ref 54), some (.int x1), some (.int x2), some (.int x3), some (.int g396)], [(.ref 59), (.int x3)])) (h' := (107, I, J, mm_rf rv sp rr w nw)) 4 rfl ?_
  refine mm_T.seg (f' := (14, [some (.ref 54), some (.int x1), some (.int x2), some (.int x3), some (.int g396)], [(.int g396), (.ref 59), (.int x3)])) (h' := (107, I, J, mm_rf rv sp rr w nw)) 1 rfl ?_
  refine mm_T.call (t := 204) (as := [(.ref 59), (.int g396)]) (f' := (17, [some (.ref 54), some (.int x1), some (.int x2), some (.int x3), some (.int g396)], [(.int x3)])) rfl (t_pick _ 59 14 g396 I J (mm_rf rv sp rr w nw) rfl rfl) (fun v h hq => ?_)
  obtain ⟨rfl, rfl⟩ := hq
  refine mm_T.br (c := x3 < (mf_pick I 59 14 g396)) (a := ((37, [some (.ref 54), some (.int x1), some (.int x2), some (.int x3), some (.int g396)], []), (107, I, J, mm_rf rv sp rr w nw))) (b := ((20, [some (.ref 54), some (.int x1), some (.int x2), some (.int x3), some (.int g396)], []), (107, I, J, mm_rf rv sp rr w nw))) rfl (fun h2210 => ?_) (fun h2210 => ?_)
  · rw [if_pos h2210] at e
    refine mm_T.seg (f' := (38, [some (.ref 54), some (.int x1), some (.int x2), some (.int x3), some (.int g396)], [(.int 0)])) (h' := (107, I, J, mm_rf rv sp rr w nw)) 1 rfl ?_
    cases e
    exact mm_T.ret rfl ⟨rfl, rfl⟩
  · rw [if_neg h2210] at e
    refine mm_T.seg (f' := (25, [some (.ref 54), some (.int x1), some (.int x2), some (.int x3), some (.int g396)], [(.ref 60), (.int x3)])) (h' := (107, I, J, mm_rf rv sp rr w nw)) 3 rfl ?_
    refine mm_T.seg (f' := (27, [some (.ref 54), some (.int x1), some (.int x2), some (.int x3), some (.int g396)], [(.int g396), (.ref 60), (.int x3)])) (h' := (107, I, J, mm_rf rv sp rr w nw)) 1 rfl ?_
    refine mm_T.call (t := 204) (as := [(.ref 60), (.int g396)]) (f' := (30, [some (.ref 54), some (.int x1), some (.int x2), some (.int x3), some (.int g396)], [(.int x3)])) rfl (t_pick _ 60 14 g396 I J (mm_rf rv sp rr w nw) rfl rfl) (fun v h hq => ?_)
    obtain ⟨rfl, rfl⟩ := hq
    refine mm_T.br (c := (mf_pick I 60 14 g396) < x3) (a := ((37, [some (.ref 54), some (.int x1), some (.int x2), some (.int x3), some (.int g396)], []), (107, I, J, mm_rf rv sp rr w nw))) (b := ((33, [some (.ref 54), some (.int x1), some (.int x2), some (.int x3), some (.int g396)], []), (107, I, J, mm_rf rv sp rr w nw))) rfl (fun h2211 => ?_) (fun h2211 => ?_)
    · rw [if_pos h2211] at e
      refine mm_T.seg (f' := (38, [some (.ref 54), some (.int x1), some (.int x2), some (.int x3), some (.int g396)], [(.int 0)])) (h' := (107, I, J, mm_rf rv sp rr w nw)) 1 rfl ?_
      cases e
      exact mm_T.ret rfl ⟨rfl, rfl⟩
    · rw [if_neg h2211] at e
      refine mm_T.seg (f' := (38, [some (.ref 54), some (.int x1), some (.int x2), some (.int x3), some (.int g396)], [(.int 1)])) (h' := (107, I, J, mm_rf rv sp rr w nw)) 2 rfl ?_
      cases e
      exact mm_T.ret rfl ⟨rfl, rfl⟩
set_option maxRecDepth 100000 in
set_option maxHeartbeats 4000000 in
theorem tX10_tallyOf (d : Nat) (x0 : Int32) (x1 : Int32) (I : Nat → Nat → Int32) (J : Nat → Nat → Int64) (rv sp rr w nw : Nat) (out : Int32) (e : fX10_tallyOf x0 x1 = out) : mm_T none (d + 0) 153 (mm_ent 153 [(.int x0), (.int x1)]) (107, I, J, mm_rf rv sp rr w nw) (fun v h => v = some (.int out) ∧ h = (107, I, J, mm_rf rv sp rr w nw)) := by
  unfold fX10_tallyOf at e
  refine mm_T.seg (f' := (7, [some (.int x0), some (.int x1)], [(.int (((x0 * 3) + x1) + 1))])) (h' := (107, I, J, mm_rf rv sp rr w nw)) 7 rfl ?_
  cases e
  exact mm_T.ret rfl ⟨rfl, rfl⟩
set_option maxRecDepth 100000 in
set_option maxHeartbeats 4000000 in
theorem tlX10_sift_L21 (d : Nat) (Q : Option Value → mm_H → Prop) (rec : Int32 → Int32 → (Nat → Nat → Int32) → Nat → Option (Int32 × (Nat → Nat → Int32))) (hrec : ∀ (x1 : Int32) (x2 : Int32) (I : Nat → Nat → Int32) (J : Nat → Nat → Int64) (rv sp rr w nw : Nat), (rv = 3 ∨ rv = 19) → ∀ (out : Int32 × (Nat → Nat → Int32)), rec x1 x2 I rv = some out → mm_T none d 154 (mm_ent 154 [(.ref 54), (.int x1), (.int x2)]) (107, I, J, mm_rf rv sp rr w nw) (fun v h => v = some (.int out.1) ∧ h = (107, out.2, J, mm_rf rv sp rr w nw))) : ∀ (n : Nat) (y1 : Int32) (y2 : Int32) (y3 : Int32) (y4 : Int32) (I : Nat → Nat → Int32) (J : Nat → Nat → Int64) (rv sp rr w nw : Nat), (rv = 3 ∨ rv = 19) → ∀ (out : Int32 × (Nat → Nat → Int32)), fX10_sift_L21 n rec y1 y2 y3 y4 I rv = some out → mm_T none (d + 2) 154 (130, [none, none, none, some (.int out.1), none, none, none, none], []) (107, out.2, J, mm_rf rv sp rr w nw) Q → mm_T none (d + 2) 154 (21, [some (.ref 54), some (.int y1), some (.int y2), some (.int y3), some (.int y4), none, none, none], []) (107, I, J, mm_rf rv sp rr w nw) Q := by
  intro n
  induction n with
  | zero =>
    intro y1 y2 y3 y4 I J rv sp rr w nw hrv out e k
    rw [fX10_sift_L21] at e; cases e
  | succ n ih =>
    intro y1 y2 y3 y4 I J rv sp rr w nw hrv out e k
    rcases hrv with rfl | rfl
    · rw [fX10_sift_L21] at e
      refine mm_T.seg (f' := (24, [some (.ref 54), some (.int y1), some (.int y2), some (.int y3), some (.int y4), none, none, none], [(.int 1), (.int y4)])) (h' := (107, I, J, mm_rf 3 sp rr w nw)) 2 rfl ?_
      refine mm_T.br (c := 1 < y4) (a := ((130, [some (.ref 54), some (.int y1), some (.int y2), some (.int y3), some (.int y4), none, none, none], []), (107, I, J, mm_rf 3 sp rr w nw))) (b := ((27, [some (.ref 54), some (.int y1), some (.int y2), some (.int y3), some (.int y4), none, none, none], []), (107, I, J, mm_rf 3 sp rr w nw))) rfl (fun h2220 => ?_) (fun h2220 => ?_)
      · rw [if_pos h2220] at e
        cases e
        refine mm_T.mask [false, false, false, true, false, false, false, false] ?_
        exact k
      · rw [if_neg h2220] at e
        refine mm_T.seg (f' := (46, [some (.ref 54), some (.int y1), some (.int y2), some (.int y3), some (.int y4), some (.int (((3 * y1) + 2) + y4)), none, none], [(.ref 56), (.int (y2 + 1)), (.int 0), (.ref 54)])) (h' := (107, I, J, mm_rf 3 sp rr w nw)) 15 rfl ?_
        refine mm_T.seg (f' := (48, [some (.ref 54), some (.int y1), some (.int y2), some (.int y3), some (.int y4), some (.int (((3 * y1) + 2) + y4)), none, none], [(.int (((3 * y1) + 2) + y4)), (.ref 56), (.int (y2 + 1)), (.int 0), (.ref 54)])) (h' := (107, I, J, mm_rf 3 sp rr w nw)) 1 rfl ?_
        refine mm_T.call (t := 204) (as := [(.ref 56), (.int (((3 * y1) + 2) + y4))]) (f' := (51, [some (.ref 54), some (.int y1), some (.int y2), some (.int y3), some (.int y4), some (.int (((3 * y1) + 2) + y4)), none, none], [(.int (y2 + 1)), (.int 0), (.ref 54)])) rfl (t_pick _ 56 1093 (((3 * y1) + 2) + y4) I J (mm_rf 3 sp rr w nw) rfl rfl) (fun v h hq => ?_)
        obtain ⟨rfl, rfl⟩ := hq
        obtain ⟨g400, hg400⟩ : ∃ z, fX10_isWithin 0 (y2 + 1) (mf_pick I 56 1093 (((3 * y1) + 2) + y4)) I = z := ⟨_, rfl⟩
        try rw [hg400] at e
        refine mm_T.call (t := 151) (as := [(.ref 54), (.int 0), (.int (y2 + 1)), (.int (mf_pick I 56 1093 (((3 * y1) + 2) + y4)))]) (f' := (54, [some (.ref 54), some (.int y1), some (.int y2), some (.int y3), some (.int y4), some (.int (((3 * y1) + 2) + y4)), none, none], [])) rfl (tX10_isWithin (d + 0) 0 (y2 + 1) (mf_pick I 56 1093 (((3 * y1) + 2) + y4)) I J 3 sp rr w nw g400 hg400) (fun v h hq => ?_)
        obtain ⟨rfl, rfl⟩ := hq
        refine mm_T.br (c := g400 = 0) (a := ((124, [some (.ref 54), some (.int y1), some (.int y2), some (.int y3), some (.int y4), some (.int (((3 * y1) + 2) + y4)), none, none], []), (107, I, J, mm_rf 3 sp rr w nw))) (b := ((57, [some (.ref 54), some (.int y1), some (.int y2), some (.int y3), some (.int y4), some (.int (((3 * y1) + 2) + y4)), none, none], []), (107, I, J, mm_rf 3 sp rr w nw))) rfl (fun h2221 => ?_) (fun h2221 => ?_)
        · rw [if_pos h2221] at e
          refine mm_T.seg (f' := (21, [some (.ref 54), some (.int y1), some (.int y2), some (.int y3), some (.int (y4 + 1)), some (.int (((3 * y1) + 2) + y4)), none, none], [])) (h' := (107, I, J, mm_rf 3 sp rr w nw)) 2 rfl ?_
          refine mm_T.mask [true, true, true, true, true, false, false, false] ?_
          exact ih y1 y2 y3 (y4 + 1) I J 3 sp rr w nw (Or.inl rfl) out e k
        · rw [if_neg h2221] at e
          refine mm_T.seg (f' := (66, [some (.ref 54), some (.int y1), some (.int y2), some (.int y3), some (.int y4), some (.int (((3 * y1) + 2) + y4)), none, none], [(.ref 58), (.int (y2 + 1)), (.int 1), (.ref 54)])) (h' := (107, I, J, mm_rf 3 sp rr w nw)) 7 rfl ?_
          refine mm_T.seg (f' := (68, [some (.ref 54), some (.int y1), some (.int y2), some (.int y3), some (.int y4), some (.int (((3 * y1) + 2) + y4)), none, none], [(.int (((3 * y1) + 2) + y4)), (.ref 58), (.int (y2 + 1)), (.int 1), (.ref 54)])) (h' := (107, I, J, mm_rf 3 sp rr w nw)) 1 rfl ?_
          refine mm_T.call (t := 204) (as := [(.ref 58), (.int (((3 * y1) + 2) + y4))]) (f' := (71, [some (.ref 54), some (.int y1), some (.int y2), some (.int y3), some (.int y4), some (.int (((3 * y1) + 2) + y4)), none, none], [(.int (y2 + 1)), (.int 1), (.ref 54)])) rfl (t_pick _ 58 1093 (((3 * y1) + 2) + y4) I J (mm_rf 3 sp rr w nw) rfl rfl) (fun v h hq => ?_)
          obtain ⟨rfl, rfl⟩ := hq
          obtain ⟨g401, hg401⟩ : ∃ z, fX10_isWithin 1 (y2 + 1) (mf_pick I 58 1093 (((3 * y1) + 2) + y4)) I = z := ⟨_, rfl⟩
          try rw [hg401] at e
          refine mm_T.call (t := 151) (as := [(.ref 54), (.int 1), (.int (y2 + 1)), (.int (mf_pick I 58 1093 (((3 * y1) + 2) + y4)))]) (f' := (74, [some (.ref 54), some (.int y1), some (.int y2), some (.int y3), some (.int y4), some (.int (((3 * y1) + 2) + y4)), none, none], [])) rfl (tX10_isWithin (d + 0) 1 (y2 + 1) (mf_pick I 58 1093 (((3 * y1) + 2) + y4)) I J 3 sp rr w nw g401 hg401) (fun v h hq => ?_)
          obtain ⟨rfl, rfl⟩ := hq
          refine mm_T.br (c := g401 = 0) (a := ((124, [some (.ref 54), some (.int y1), some (.int y2), some (.int y3), some (.int y4), some (.int (((3 * y1) + 2) + y4)), none, none], []), (107, I, J, mm_rf 3 sp rr w nw))) (b := ((77, [some (.ref 54), some (.int y1), some (.int y2), some (.int y3), some (.int y4), some (.int (((3 * y1) + 2) + y4)), none, none], []), (107, I, J, mm_rf 3 sp rr w nw))) rfl (fun h2222 => ?_) (fun h2222 => ?_)
          · rw [if_pos h2222] at e
            refine mm_T.seg (f' := (21, [some (.ref 54), some (.int y1), some (.int y2), some (.int y3), some (.int (y4 + 1)), some (.int (((3 * y1) + 2) + y4)), none, none], [])) (h' := (107, I, J, mm_rf 3 sp rr w nw)) 2 rfl ?_
            refine mm_T.mask [true, true, true, true, true, false, false, false] ?_
            exact ih y1 y2 y3 (y4 + 1) I J 3 sp rr w nw (Or.inl rfl) out e k
          · rw [if_neg h2222] at e
            refine mm_T.seg (f' := (83, [some (.ref 54), some (.int y1), some (.int y2), some (.int y3), some (.int y4), some (.int (((3 * y1) + 2) + y4)), none, none], [(.int (y2 + 1)), (.int (((3 * y1) + 2) + y4)), (.ref 54)])) (h' := (107, I, J, mm_rf 3 sp rr w nw)) 5 rfl ?_
            obtain ⟨o2223, eo2223, e⟩ := mm_bind e
            refine mm_T.call (t := 154) (as := [(.ref 54), (.int (((3 * y1) + 2) + y4)), (.int (y2 + 1))]) (f' := (86, [some (.ref 54), some (.int y1), some (.int y2), some (.int y3), some (.int y4), some (.int (((3 * y1) + 2) + y4)), none, none], [])) rfl (mm_T.deep (hrec (((3 * y1) + 2) + y4) (y2 + 1) I J 3 sp rr w nw (Or.inl rfl) o2223 eo2223) (by omega)) (fun v h hq => ?_)
            obtain ⟨rfl, rfl⟩ := hq
            refine mm_T.seg (f' := (93, [some (.ref 54), some (.int y1), some (.int y2), some (.int y3), some (.int y4), some (.int (((3 * y1) + 2) + y4)), some (.int o2223.1), none], [(.int y4), (.int (y2 + 1))])) (h' := (107, o2223.2, J, mm_rf 3 sp rr w nw)) 5 rfl ?_
            obtain ⟨g402, hg402⟩ : ∃ z, fX10_tallyOf (y2 + 1) y4 = z := ⟨_, rfl⟩
            try rw [hg402] at e
            refine mm_T.call (t := 153) (as := [(.int (y2 + 1)), (.int y4)]) (f' := (96, [some (.ref 54), some (.int y1), some (.int y2), some (.int y3), some (.int y4), some (.int (((3 * y1) + 2) + y4)), some (.int o2223.1), none], [])) rfl (tX10_tallyOf (d + 1) (y2 + 1) y4 o2223.2 J 3 sp rr w nw g402 hg402) (fun v h hq => ?_)
            obtain ⟨rfl, rfl⟩ := hq
            refine mm_T.seg (f' := (102, [some (.ref 54), some (.int y1), some (.int y2), some (.int y3), some (.int y4), some (.int (((3 * y1) + 2) + y4)), some (.int o2223.1), some (.int g402)], [(.ref 61)])) (h' := (107, o2223.2, J, mm_rf 3 sp rr w nw)) 3 rfl ?_
            refine mm_T.seg (f' := (108, [some (.ref 54), some (.int y1), some (.int y2), some (.int y3), some (.int y4), some (.int (((3 * y1) + 2) + y4)), some (.int o2223.1), some (.int g402)], [(.ref 61), (.int g402), (.ref 61)])) (h' := (107, o2223.2, J, mm_rf 3 sp rr w nw)) 3 rfl ?_
            refine mm_T.seg (f' := (110, [some (.ref 54), some (.int y1), some (.int y2), some (.int y3), some (.int y4), some (.int (((3 * y1) + 2) + y4)), some (.int o2223.1), some (.int g402)], [(.int g402), (.ref 61), (.int g402), (.ref 61)])) (h' := (107, o2223.2, J, mm_rf 3 sp rr w nw)) 1 rfl ?_
            refine mm_T.call (t := 204) (as := [(.ref 61), (.int g402)]) (f' := (113, [some (.ref 54), some (.int y1), some (.int y2), some (.int y3), some (.int y4), some (.int (((3 * y1) + 2) + y4)), some (.int o2223.1), some (.int g402)], [(.int g402), (.ref 61)])) rfl (t_pick _ 61 21 g402 o2223.2 J (mm_rf 3 sp rr w nw) rfl rfl) (fun v h hq => ?_)
            obtain ⟨rfl, rfl⟩ := hq
            refine mm_T.seg (f' := (116, [some (.ref 54), some (.int y1), some (.int y2), some (.int y3), some (.int y4), some (.int (((3 * y1) + 2) + y4)), some (.int o2223.1), some (.int g402)], [(.int ((mf_pick o2223.2 61 21 g402) + o2223.1)), (.int g402), (.ref 61)])) (h' := (107, o2223.2, J, mm_rf 3 sp rr w nw)) 2 rfl ?_
            refine mm_T.call (t := 205) (as := [(.ref 61), (.int g402), (.int ((mf_pick o2223.2 61 21 g402) + o2223.1))]) (f' := (119, [some (.ref 54), some (.int y1), some (.int y2), some (.int y3), some (.int y4), some (.int (((3 * y1) + 2) + y4)), some (.int o2223.1), some (.int g402)], [])) rfl (t_put _ 61 21 g402 ((mf_pick o2223.2 61 21 g402) + o2223.1) o2223.2 J (mm_rf 3 sp rr w nw) rfl rfl) (fun v h hq => ?_)
            obtain ⟨rfl, rfl⟩ := hq
            refine mm_T.seg (f' := (21, [some (.ref 54), some (.int y1), some (.int y2), some (.int (y3 + o2223.1)), some (.int (y4 + 1)), some (.int (((3 * y1) + 2) + y4)), some (.int o2223.1), some (.int g402)], [])) (h' := (107, (mf_put o2223.2 61 21 g402 ((mf_pick o2223.2 61 21 g402) + o2223.1)), J, mm_rf 3 sp rr w nw)) 6 rfl ?_
            refine mm_T.mask [true, true, true, true, true, false, false, false] ?_
            exact ih y1 y2 (y3 + o2223.1) (y4 + 1) (mf_put o2223.2 61 21 g402 ((mf_pick o2223.2 61 21 g402) + o2223.1)) J 3 sp rr w nw (Or.inl rfl) out e k
    · rw [fX10_sift_L21] at e
      refine mm_T.seg (f' := (24, [some (.ref 54), some (.int y1), some (.int y2), some (.int y3), some (.int y4), none, none, none], [(.int 1), (.int y4)])) (h' := (107, I, J, mm_rf 19 sp rr w nw)) 2 rfl ?_
      refine mm_T.br (c := 1 < y4) (a := ((130, [some (.ref 54), some (.int y1), some (.int y2), some (.int y3), some (.int y4), none, none, none], []), (107, I, J, mm_rf 19 sp rr w nw))) (b := ((27, [some (.ref 54), some (.int y1), some (.int y2), some (.int y3), some (.int y4), none, none, none], []), (107, I, J, mm_rf 19 sp rr w nw))) rfl (fun h2220 => ?_) (fun h2220 => ?_)
      · rw [if_pos h2220] at e
        cases e
        refine mm_T.mask [false, false, false, true, false, false, false, false] ?_
        exact k
      · rw [if_neg h2220] at e
        refine mm_T.seg (f' := (46, [some (.ref 54), some (.int y1), some (.int y2), some (.int y3), some (.int y4), some (.int (((3 * y1) + 2) + y4)), none, none], [(.ref 56), (.int (y2 + 1)), (.int 0), (.ref 54)])) (h' := (107, I, J, mm_rf 19 sp rr w nw)) 15 rfl ?_
        refine mm_T.seg (f' := (48, [some (.ref 54), some (.int y1), some (.int y2), some (.int y3), some (.int y4), some (.int (((3 * y1) + 2) + y4)), none, none], [(.int (((3 * y1) + 2) + y4)), (.ref 56), (.int (y2 + 1)), (.int 0), (.ref 54)])) (h' := (107, I, J, mm_rf 19 sp rr w nw)) 1 rfl ?_
        refine mm_T.call (t := 204) (as := [(.ref 56), (.int (((3 * y1) + 2) + y4))]) (f' := (51, [some (.ref 54), some (.int y1), some (.int y2), some (.int y3), some (.int y4), some (.int (((3 * y1) + 2) + y4)), none, none], [(.int (y2 + 1)), (.int 0), (.ref 54)])) rfl (t_pick _ 56 1093 (((3 * y1) + 2) + y4) I J (mm_rf 19 sp rr w nw) rfl rfl) (fun v h hq => ?_)
        obtain ⟨rfl, rfl⟩ := hq
        obtain ⟨g400, hg400⟩ : ∃ z, fX10_isWithin 0 (y2 + 1) (mf_pick I 56 1093 (((3 * y1) + 2) + y4)) I = z := ⟨_, rfl⟩
        try rw [hg400] at e
        refine mm_T.call (t := 151) (as := [(.ref 54), (.int 0), (.int (y2 + 1)), (.int (mf_pick I 56 1093 (((3 * y1) + 2) + y4)))]) (f' := (54, [some (.ref 54), some (.int y1), some (.int y2), some (.int y3), some (.int y4), some (.int (((3 * y1) + 2) + y4)), none, none], [])) rfl (tX10_isWithin (d + 0) 0 (y2 + 1) (mf_pick I 56 1093 (((3 * y1) + 2) + y4)) I J 19 sp rr w nw g400 hg400) (fun v h hq => ?_)
        obtain ⟨rfl, rfl⟩ := hq
        refine mm_T.br (c := g400 = 0) (a := ((124, [some (.ref 54), some (.int y1), some (.int y2), some (.int y3), some (.int y4), some (.int (((3 * y1) + 2) + y4)), none, none], []), (107, I, J, mm_rf 19 sp rr w nw))) (b := ((57, [some (.ref 54), some (.int y1), some (.int y2), some (.int y3), some (.int y4), some (.int (((3 * y1) + 2) + y4)), none, none], []), (107, I, J, mm_rf 19 sp rr w nw))) rfl (fun h2221 => ?_) (fun h2221 => ?_)
        · rw [if_pos h2221] at e
          refine mm_T.seg (f' := (21, [some (.ref 54), some (.int y1), some (.int y2), some (.int y3), some (.int (y4 + 1)), some (.int (((3 * y1) + 2) + y4)), none, none], [])) (h' := (107, I, J, mm_rf 19 sp rr w nw)) 2 rfl ?_
          refine mm_T.mask [true, true, true, true, true, false, false, false] ?_
          exact ih y1 y2 y3 (y4 + 1) I J 19 sp rr w nw (Or.inr rfl) out e k
        · rw [if_neg h2221] at e
          refine mm_T.seg (f' := (66, [some (.ref 54), some (.int y1), some (.int y2), some (.int y3), some (.int y4), some (.int (((3 * y1) + 2) + y4)), none, none], [(.ref 58), (.int (y2 + 1)), (.int 1), (.ref 54)])) (h' := (107, I, J, mm_rf 19 sp rr w nw)) 7 rfl ?_
          refine mm_T.seg (f' := (68, [some (.ref 54), some (.int y1), some (.int y2), some (.int y3), some (.int y4), some (.int (((3 * y1) + 2) + y4)), none, none], [(.int (((3 * y1) + 2) + y4)), (.ref 58), (.int (y2 + 1)), (.int 1), (.ref 54)])) (h' := (107, I, J, mm_rf 19 sp rr w nw)) 1 rfl ?_
          refine mm_T.call (t := 204) (as := [(.ref 58), (.int (((3 * y1) + 2) + y4))]) (f' := (71, [some (.ref 54), some (.int y1), some (.int y2), some (.int y3), some (.int y4), some (.int (((3 * y1) + 2) + y4)), none, none], [(.int (y2 + 1)), (.int 1), (.ref 54)])) rfl (t_pick _ 58 1093 (((3 * y1) + 2) + y4) I J (mm_rf 19 sp rr w nw) rfl rfl) (fun v h hq => ?_)
          obtain ⟨rfl, rfl⟩ := hq
          obtain ⟨g401, hg401⟩ : ∃ z, fX10_isWithin 1 (y2 + 1) (mf_pick I 58 1093 (((3 * y1) + 2) + y4)) I = z := ⟨_, rfl⟩
          try rw [hg401] at e
          refine mm_T.call (t := 151) (as := [(.ref 54), (.int 1), (.int (y2 + 1)), (.int (mf_pick I 58 1093 (((3 * y1) + 2) + y4)))]) (f' := (74, [some (.ref 54), some (.int y1), some (.int y2), some (.int y3), some (.int y4), some (.int (((3 * y1) + 2) + y4)), none, none], [])) rfl (tX10_isWithin (d + 0) 1 (y2 + 1) (mf_pick I 58 1093 (((3 * y1) + 2) + y4)) I J 19 sp rr w nw g401 hg401) (fun v h hq => ?_)
          obtain ⟨rfl, rfl⟩ := hq
          refine mm_T.br (c := g401 = 0) (a := ((124, [some (.ref 54), some (.int y1), some (.int y2), some (.int y3), some (.int y4), some (.int (((3 * y1) + 2) + y4)), none, none], []), (107, I, J, mm_rf 19 sp rr w nw))) (b := ((77, [some (.ref 54), some (.int y1), some (.int y2), some (.int y3), some (.int y4), some (.int (((3 * y1) + 2) + y4)), none, none], []), (107, I, J, mm_rf 19 sp rr w nw))) rfl (fun h2222 => ?_) (fun h2222 => ?_)
          · rw [if_pos h2222] at e
            refine mm_T.seg (f' := (21, [some (.ref 54), some (.int y1), some (.int y2), some (.int y3), some (.int (y4 + 1)), some (.int (((3 * y1) + 2) + y4)), none, none], [])) (h' := (107, I, J, mm_rf 19 sp rr w nw)) 2 rfl ?_
            refine mm_T.mask [true, true, true, true, true, false, false, false] ?_
            exact ih y1 y2 y3 (y4 + 1) I J 19 sp rr w nw (Or.inr rfl) out e k
          · rw [if_neg h2222] at e
            refine mm_T.seg (f' := (83, [some (.ref 54), some (.int y1), some (.int y2), some (.int y3), some (.int y4), some (.int (((3 * y1) + 2) + y4)), none, none], [(.int (y2 + 1)), (.int (((3 * y1) + 2) + y4)), (.ref 54)])) (h' := (107, I, J, mm_rf 19 sp rr w nw)) 5 rfl ?_
            obtain ⟨o2223, eo2223, e⟩ := mm_bind e
            refine mm_T.call (t := 154) (as := [(.ref 54), (.int (((3 * y1) + 2) + y4)), (.int (y2 + 1))]) (f' := (86, [some (.ref 54), some (.int y1), some (.int y2), some (.int y3), some (.int y4), some (.int (((3 * y1) + 2) + y4)), none, none], [])) rfl (mm_T.deep (hrec (((3 * y1) + 2) + y4) (y2 + 1) I J 19 sp rr w nw (Or.inr rfl) o2223 eo2223) (by omega)) (fun v h hq => ?_)
            obtain ⟨rfl, rfl⟩ := hq
            refine mm_T.seg (f' := (93, [some (.ref 54), some (.int y1), some (.int y2), some (.int y3), some (.int y4), some (.int (((3 * y1) + 2) + y4)), some (.int o2223.1), none], [(.int y4), (.int (y2 + 1))])) (h' := (107, o2223.2, J, mm_rf 19 sp rr w nw)) 5 rfl ?_
            obtain ⟨g402, hg402⟩ : ∃ z, fX10_tallyOf (y2 + 1) y4 = z := ⟨_, rfl⟩
            try rw [hg402] at e
            refine mm_T.call (t := 153) (as := [(.int (y2 + 1)), (.int y4)]) (f' := (96, [some (.ref 54), some (.int y1), some (.int y2), some (.int y3), some (.int y4), some (.int (((3 * y1) + 2) + y4)), some (.int o2223.1), none], [])) rfl (tX10_tallyOf (d + 1) (y2 + 1) y4 o2223.2 J 19 sp rr w nw g402 hg402) (fun v h hq => ?_)
            obtain ⟨rfl, rfl⟩ := hq
            refine mm_T.seg (f' := (102, [some (.ref 54), some (.int y1), some (.int y2), some (.int y3), some (.int y4), some (.int (((3 * y1) + 2) + y4)), some (.int o2223.1), some (.int g402)], [(.ref 61)])) (h' := (107, o2223.2, J, mm_rf 19 sp rr w nw)) 3 rfl ?_
            refine mm_T.seg (f' := (108, [some (.ref 54), some (.int y1), some (.int y2), some (.int y3), some (.int y4), some (.int (((3 * y1) + 2) + y4)), some (.int o2223.1), some (.int g402)], [(.ref 61), (.int g402), (.ref 61)])) (h' := (107, o2223.2, J, mm_rf 19 sp rr w nw)) 3 rfl ?_
            refine mm_T.seg (f' := (110, [some (.ref 54), some (.int y1), some (.int y2), some (.int y3), some (.int y4), some (.int (((3 * y1) + 2) + y4)), some (.int o2223.1), some (.int g402)], [(.int g402), (.ref 61), (.int g402), (.ref 61)])) (h' := (107, o2223.2, J, mm_rf 19 sp rr w nw)) 1 rfl ?_
            refine mm_T.call (t := 204) (as := [(.ref 61), (.int g402)]) (f' := (113, [some (.ref 54), some (.int y1), some (.int y2), some (.int y3), some (.int y4), some (.int (((3 * y1) + 2) + y4)), some (.int o2223.1), some (.int g402)], [(.int g402), (.ref 61)])) rfl (t_pick _ 61 21 g402 o2223.2 J (mm_rf 19 sp rr w nw) rfl rfl) (fun v h hq => ?_)
            obtain ⟨rfl, rfl⟩ := hq
            refine mm_T.seg (f' := (116, [some (.ref 54), some (.int y1), some (.int y2), some (.int y3), some (.int y4), some (.int (((3 * y1) + 2) + y4)), some (.int o2223.1), some (.int g402)], [(.int ((mf_pick o2223.2 61 21 g402) + o2223.1)), (.int g402), (.ref 61)])) (h' := (107, o2223.2, J, mm_rf 19 sp rr w nw)) 2 rfl ?_
            refine mm_T.call (t := 205) (as := [(.ref 61), (.int g402), (.int ((mf_pick o2223.2 61 21 g402) + o2223.1))]) (f' := (119, [some (.ref 54), some (.int y1), some (.int y2), some (.int y3), some (.int y4), some (.int (((3 * y1) + 2) + y4)), some (.int o2223.1), some (.int g402)], [])) rfl (t_put _ 61 21 g402 ((mf_pick o2223.2 61 21 g402) + o2223.1) o2223.2 J (mm_rf 19 sp rr w nw) rfl rfl) (fun v h hq => ?_)
            obtain ⟨rfl, rfl⟩ := hq
            refine mm_T.seg (f' := (21, [some (.ref 54), some (.int y1), some (.int y2), some (.int (y3 + o2223.1)), some (.int (y4 + 1)), some (.int (((3 * y1) + 2) + y4)), some (.int o2223.1), some (.int g402)], [])) (h' := (107, (mf_put o2223.2 61 21 g402 ((mf_pick o2223.2 61 21 g402) + o2223.1)), J, mm_rf 19 sp rr w nw)) 6 rfl ?_
            refine mm_T.mask [true, true, true, true, true, false, false, false] ?_
            exact ih y1 y2 (y3 + o2223.1) (y4 + 1) (mf_put o2223.2 61 21 g402 ((mf_pick o2223.2 61 21 g402) + o2223.1)) J 19 sp rr w nw (Or.inr rfl) out e k
set_option maxRecDepth 100000 in
set_option maxHeartbeats 4000000 in
theorem tX10_sift_B (d n : Nat) (rec : Int32 → Int32 → (Nat → Nat → Int32) → Nat → Option (Int32 × (Nat → Nat → Int32))) (hrec : ∀ (x1 : Int32) (x2 : Int32) (I : Nat → Nat → Int32) (J : Nat → Nat → Int64) (rv sp rr w nw : Nat), (rv = 3 ∨ rv = 19) → ∀ (out : Int32 × (Nat → Nat → Int32)), rec x1 x2 I rv = some out → mm_T none d 154 (mm_ent 154 [(.ref 54), (.int x1), (.int x2)]) (107, I, J, mm_rf rv sp rr w nw) (fun v h => v = some (.int out.1) ∧ h = (107, out.2, J, mm_rf rv sp rr w nw))) (x1 : Int32) (x2 : Int32) (I : Nat → Nat → Int32) (J : Nat → Nat → Int64) (rv sp rr w nw : Nat) (hrv : rv = 3 ∨ rv = 19) (out : Int32 × (Nat → Nat → Int32)) (e : fX10_sift_B n rec x1 x2 I rv = some out) : mm_T none (d + 2) 154 (mm_ent 154 [(.ref 54), (.int x1), (.int x2)]) (107, I, J, mm_rf rv sp rr w nw) (fun v h => v = some (.int out.1) ∧ h = (107, out.2, J, mm_rf rv sp rr w nw)) := by
  rcases hrv with rfl | rfl
  · unfold fX10_sift_B at e
    refine mm_T.seg (f' := (5, [some (.ref 54), some (.int x1), some (.int x2), none, none, none, none, none], [(.ref 18), (.int x2)])) (h' := (107, I, J, mm_rf 3 sp rr w nw)) 3 rfl ?_
    refine mm_T.seg (f' := (11, [some (.ref 54), some (.int x1), some (.int x2), none, none, none, none, none], [(.int (I 3 1)), (.int x2)])) (h' := (107, I, J, mm_rf 3 sp rr w nw)) 2 rfl ?_
    refine mm_T.br (c := x2 < (I 3 1)) (a := ((16, [some (.ref 54), some (.int x1), some (.int x2), none, none, none, none, none], []), (107, I, J, mm_rf 3 sp rr w nw))) (b := ((14, [some (.ref 54), some (.int x1), some (.int x2), none, none, none, none, none], []), (107, I, J, mm_rf 3 sp rr w nw))) rfl (fun h2215 => ?_) (fun h2215 => ?_)
    · rw [if_pos h2215] at e
      refine mm_T.seg (f' := (21, [some (.ref 54), some (.int x1), some (.int x2), some (.int 0), some (.int (-1)), none, none, none], [])) (h' := (107, I, J, mm_rf 3 sp rr w nw)) 4 rfl ?_
      refine mm_T.mask [true, true, true, true, true, false, false, false] ?_
      obtain ⟨o2224, eo2224, e⟩ := mm_bind e
      refine tlX10_sift_L21 d _ rec hrec n x1 x2 0 (-1) I J 3 sp rr w nw (Or.inl rfl) o2224 eo2224 ?_
      refine mm_T.seg (f' := (131, [none, none, none, some (.int o2224.1), none, none, none, none], [(.int o2224.1)])) (h' := (107, o2224.2, J, mm_rf 3 sp rr w nw)) 1 rfl ?_
      cases e
      exact mm_T.ret rfl ⟨rfl, rfl⟩
    · rw [if_neg h2215] at e
      refine mm_T.seg (f' := (15, [some (.ref 54), some (.int x1), some (.int x2), none, none, none, none, none], [(.int 1)])) (h' := (107, I, J, mm_rf 3 sp rr w nw)) 1 rfl ?_
      cases e
      exact mm_T.ret rfl ⟨rfl, rfl⟩
  · unfold fX10_sift_B at e
    refine mm_T.seg (f' := (5, [some (.ref 54), some (.int x1), some (.int x2), none, none, none, none, none], [(.ref 18), (.int x2)])) (h' := (107, I, J, mm_rf 19 sp rr w nw)) 3 rfl ?_
    refine mm_T.seg (f' := (11, [some (.ref 54), some (.int x1), some (.int x2), none, none, none, none, none], [(.int (I 19 1)), (.int x2)])) (h' := (107, I, J, mm_rf 19 sp rr w nw)) 2 rfl ?_
    refine mm_T.br (c := x2 < (I 19 1)) (a := ((16, [some (.ref 54), some (.int x1), some (.int x2), none, none, none, none, none], []), (107, I, J, mm_rf 19 sp rr w nw))) (b := ((14, [some (.ref 54), some (.int x1), some (.int x2), none, none, none, none, none], []), (107, I, J, mm_rf 19 sp rr w nw))) rfl (fun h2215 => ?_) (fun h2215 => ?_)
    · rw [if_pos h2215] at e
      refine mm_T.seg (f' := (21, [some (.ref 54), some (.int x1), some (.int x2), some (.int 0), some (.int (-1)), none, none, none], [])) (h' := (107, I, J, mm_rf 19 sp rr w nw)) 4 rfl ?_
      refine mm_T.mask [true, true, true, true, true, false, false, false] ?_
      obtain ⟨o2224, eo2224, e⟩ := mm_bind e
      refine tlX10_sift_L21 d _ rec hrec n x1 x2 0 (-1) I J 19 sp rr w nw (Or.inr rfl) o2224 eo2224 ?_
      refine mm_T.seg (f' := (131, [none, none, none, some (.int o2224.1), none, none, none, none], [(.int o2224.1)])) (h' := (107, o2224.2, J, mm_rf 19 sp rr w nw)) 1 rfl ?_
      cases e
      exact mm_T.ret rfl ⟨rfl, rfl⟩
    · rw [if_neg h2215] at e
      refine mm_T.seg (f' := (15, [some (.ref 54), some (.int x1), some (.int x2), none, none, none, none, none], [(.int 1)])) (h' := (107, I, J, mm_rf 19 sp rr w nw)) 1 rfl ?_
      cases e
      exact mm_T.ret rfl ⟨rfl, rfl⟩
theorem tX10_sift (d n : Nat) : ∀ (q : Nat) (x1 : Int32) (x2 : Int32) (I : Nat → Nat → Int32) (J : Nat → Nat → Int64) (rv sp rr w nw : Nat), (rv = 3 ∨ rv = 19) → ∀ (out : Int32 × (Nat → Nat → Int32)), fX10_sift n q x1 x2 I rv = some out → mm_T none (d + 2 * q) 154 (mm_ent 154 [(.ref 54), (.int x1), (.int x2)]) (107, I, J, mm_rf rv sp rr w nw) (fun v h => v = some (.int out.1) ∧ h = (107, out.2, J, mm_rf rv sp rr w nw)) := by
  intro q
  induction q with
  | zero =>
    intro x1 x2 I J rv sp rr w nw hrv out e
    rw [fX10_sift] at e; cases e
  | succ q ih =>
    intro x1 x2 I J rv sp rr w nw hrv out e
    rw [fX10_sift] at e
    exact tX10_sift_B (d + 2 * q) n (fX10_sift n q) ih x1 x2 I J rv sp rr w nw hrv out e
set_option maxRecDepth 100000 in
set_option maxHeartbeats 4000000 in
theorem tX10_countFits (d n : Nat) (x1 : Int32) (I : Nat → Nat → Int32) (J : Nat → Nat → Int64) (rv sp rr w nw : Nat) (hrv : rv = 3 ∨ rv = 19) (out : Int32 × (Nat → Nat → Int32)) (e : fX10_countFits n x1 I rv = some out) : mm_T none (d + 17) 152 (mm_ent 152 [(.ref 54), (.int x1)]) (107, I, J, mm_rf rv sp rr w nw) (fun v h => v = some (.int out.1) ∧ h = (107, out.2, J, mm_rf rv sp rr w nw)) := by
  rcases hrv with rfl | rfl
  · unfold fX10_countFits at e
    refine mm_T.seg (f' := (4, [some (.ref 54), some (.int x1)], [(.ref 61)])) (h' := (107, I, J, mm_rf 3 sp rr w nw)) 2 rfl ?_
    refine mm_T.seg (f' := (5, [some (.ref 54), some (.int x1)], [(.int 0), (.ref 61)])) (h' := (107, I, J, mm_rf 3 sp rr w nw)) 1 rfl ?_
    refine mm_T.call (t := 344) (as := [(.ref 61), (.int 0)]) (f' := (8, [some (.ref 54), some (.int x1)], [])) rfl (t_fill _ 61 21 0 I J (mm_rf 3 sp rr w nw) rfl rfl) (fun v h hq => ?_)
    obtain ⟨rfl, rfl⟩ := hq
    refine mm_T.seg (f' := (12, [some (.ref 54), some (.int x1)], [(.ref 18)])) (h' := (107, (mf_fill I 61 21 0), J, mm_rf 3 sp rr w nw)) 2 rfl ?_
    refine mm_T.seg (f' := (18, [some (.ref 54), some (.int x1)], [(.int ((mf_fill I 61 21 0) 3 4))])) (h' := (107, (mf_fill I 61 21 0), J, mm_rf 3 sp rr w nw)) 2 rfl ?_
    refine mm_T.br (c := ((mf_fill I 61 21 0) 3 4) = 0) (a := ((21, [some (.ref 54), some (.int x1)], []), (107, (mf_fill I 61 21 0), J, mm_rf 3 sp rr w nw))) (b := ((23, [some (.ref 54), some (.int x1)], []), (107, (mf_fill I 61 21 0), J, mm_rf 3 sp rr w nw))) rfl (fun h2212 => ?_) (fun h2212 => ?_)
    · rw [if_pos h2212] at e
      refine mm_T.seg (f' := (22, [some (.ref 54), some (.int x1)], [(.int 0)])) (h' := (107, (mf_fill I 61 21 0), J, mm_rf 3 sp rr w nw)) 1 rfl ?_
      cases e
      exact mm_T.ret rfl ⟨rfl, rfl⟩
    · rw [if_neg h2212] at e
      refine mm_T.seg (f' := (24, [some (.ref 54), some (.int x1)], [(.ref 54)])) (h' := (107, (mf_fill I 61 21 0), J, mm_rf 3 sp rr w nw)) 1 rfl ?_
      obtain ⟨o2213, eo2213, e⟩ := mm_bind e
      refine mm_T.call (t := 146) (as := [(.ref 54)]) (f' := (27, [some (.ref 54), some (.int x1)], [])) rfl (tX10_grow (d + 12) n (mf_fill I 61 21 0) J 3 sp rr w nw (Or.inl rfl) o2213 eo2213) (fun v h hq => ?_)
      obtain ⟨rfl, rfl⟩ := hq
      refine mm_T.seg (f' := (29, [some (.ref 54), some (.int x1)], [(.int x1), (.ref 54)])) (h' := (107, o2213, J, mm_rf 3 sp rr w nw)) 2 rfl ?_
      obtain ⟨o2214, eo2214, e⟩ := mm_bind e
      refine mm_T.call (t := 150) (as := [(.ref 54), (.int x1)]) (f' := (32, [some (.ref 54), some (.int x1)], [])) rfl (tX10_narrow (d + 13) n x1 o2213 J 3 sp rr w nw o2214 eo2214) (fun v h hq => ?_)
      obtain ⟨rfl, rfl⟩ := hq
      refine mm_T.seg (f' := (35, [some (.ref 54), some (.int x1)], [(.int 0), (.int 0), (.ref 54)])) (h' := (107, o2214, J, mm_rf 3 sp rr w nw)) 3 rfl ?_
      obtain ⟨o2225, eo2225, e⟩ := mm_bind e
      refine mm_T.call (t := 154) (as := [(.ref 54), (.int 0), (.int 0)]) (f' := (38, [some (.ref 54), some (.int x1)], [])) rfl (mm_T.deep (tX10_sift d n 8 0 0 o2214 J 3 sp rr w nw (Or.inl rfl) o2225 eo2225) (by omega)) (fun v h hq => ?_)
      obtain ⟨rfl, rfl⟩ := hq
      cases e
      exact mm_T.ret rfl ⟨rfl, rfl⟩
  · unfold fX10_countFits at e
    refine mm_T.seg (f' := (4, [some (.ref 54), some (.int x1)], [(.ref 61)])) (h' := (107, I, J, mm_rf 19 sp rr w nw)) 2 rfl ?_
    refine mm_T.seg (f' := (5, [some (.ref 54), some (.int x1)], [(.int 0), (.ref 61)])) (h' := (107, I, J, mm_rf 19 sp rr w nw)) 1 rfl ?_
    refine mm_T.call (t := 344) (as := [(.ref 61), (.int 0)]) (f' := (8, [some (.ref 54), some (.int x1)], [])) rfl (t_fill _ 61 21 0 I J (mm_rf 19 sp rr w nw) rfl rfl) (fun v h hq => ?_)
    obtain ⟨rfl, rfl⟩ := hq
    refine mm_T.seg (f' := (12, [some (.ref 54), some (.int x1)], [(.ref 18)])) (h' := (107, (mf_fill I 61 21 0), J, mm_rf 19 sp rr w nw)) 2 rfl ?_
    refine mm_T.seg (f' := (18, [some (.ref 54), some (.int x1)], [(.int ((mf_fill I 61 21 0) 19 4))])) (h' := (107, (mf_fill I 61 21 0), J, mm_rf 19 sp rr w nw)) 2 rfl ?_
    refine mm_T.br (c := ((mf_fill I 61 21 0) 19 4) = 0) (a := ((21, [some (.ref 54), some (.int x1)], []), (107, (mf_fill I 61 21 0), J, mm_rf 19 sp rr w nw))) (b := ((23, [some (.ref 54), some (.int x1)], []), (107, (mf_fill I 61 21 0), J, mm_rf 19 sp rr w nw))) rfl (fun h2212 => ?_) (fun h2212 => ?_)
    · rw [if_pos h2212] at e
      refine mm_T.seg (f' := (22, [some (.ref 54), some (.int x1)], [(.int 0)])) (h' := (107, (mf_fill I 61 21 0), J, mm_rf 19 sp rr w nw)) 1 rfl ?_
      cases e
      exact mm_T.ret rfl ⟨rfl, rfl⟩
    · rw [if_neg h2212] at e
      refine mm_T.seg (f' := (24, [some (.ref 54), some (.int x1)], [(.ref 54)])) (h' := (107, (mf_fill I 61 21 0), J, mm_rf 19 sp rr w nw)) 1 rfl ?_
      obtain ⟨o2213, eo2213, e⟩ := mm_bind e
      refine mm_T.call (t := 146) (as := [(.ref 54)]) (f' := (27, [some (.ref 54), some (.int x1)], [])) rfl (tX10_grow (d + 12) n (mf_fill I 61 21 0) J 19 sp rr w nw (Or.inr rfl) o2213 eo2213) (fun v h hq => ?_)
      obtain ⟨rfl, rfl⟩ := hq
      refine mm_T.seg (f' := (29, [some (.ref 54), some (.int x1)], [(.int x1), (.ref 54)])) (h' := (107, o2213, J, mm_rf 19 sp rr w nw)) 2 rfl ?_
      obtain ⟨o2214, eo2214, e⟩ := mm_bind e
      refine mm_T.call (t := 150) (as := [(.ref 54), (.int x1)]) (f' := (32, [some (.ref 54), some (.int x1)], [])) rfl (tX10_narrow (d + 13) n x1 o2213 J 19 sp rr w nw o2214 eo2214) (fun v h hq => ?_)
      obtain ⟨rfl, rfl⟩ := hq
      refine mm_T.seg (f' := (35, [some (.ref 54), some (.int x1)], [(.int 0), (.int 0), (.ref 54)])) (h' := (107, o2214, J, mm_rf 19 sp rr w nw)) 3 rfl ?_
      obtain ⟨o2225, eo2225, e⟩ := mm_bind e
      refine mm_T.call (t := 154) (as := [(.ref 54), (.int 0), (.int 0)]) (f' := (38, [some (.ref 54), some (.int x1)], [])) rfl (mm_T.deep (tX10_sift d n 8 0 0 o2214 J 19 sp rr w nw (Or.inr rfl) o2225 eo2225) (by omega)) (fun v h hq => ?_)
      obtain ⟨rfl, rfl⟩ := hq
      cases e
      exact mm_T.ret rfl ⟨rfl, rfl⟩
set_option maxRecDepth 100000 in
set_option maxHeartbeats 4000000 in
theorem tlX10_sureSteer_L39 (d : Nat) (Q : Option Value → mm_H → Prop) : ∀ (n : Nat) (y1 : Int32) (y3 : Int32) (y4 : Int32) (I : Nat → Nat → Int32) (J : Nat → Nat → Int64) (rv sp rr w nw : Nat), ∀ (out : (Int32 ⊕ (Unit))), fX10_sureSteer_L39 n y1 y3 y4 I = some out → (∀ (r : Int32), out = .inl r → Q (some (.int r)) (107, I, J, mm_rf rv sp rr w nw)) → (∀ (y : Unit), out = .inr y → mm_T none (d + 18) 155 (71, [none, none, none, none, none], []) (107, I, J, mm_rf rv sp rr w nw) Q) → mm_T none (d + 18) 155 (39, [some (.ref 54), some (.int y1), none, some (.int y3), some (.int y4)], []) (107, I, J, mm_rf rv sp rr w nw) Q := by
  intro n
  induction n with
  | zero =>
    intro y1 y3 y4 I J rv sp rr w nw out e kr ke
    rw [fX10_sureSteer_L39] at e; cases e
  | succ n ih =>
    intro y1 y3 y4 I J rv sp rr w nw out e kr ke
    rw [fX10_sureSteer_L39] at e
    refine mm_T.seg (f' := (42, [some (.ref 54), some (.int y1), none, some (.int y3), some (.int y4)], [(.int 1), (.int y4)])) (h' := (107, I, J, mm_rf rv sp rr w nw)) 2 rfl ?_
    refine mm_T.br (c := 1 < y4) (a := ((71, [some (.ref 54), some (.int y1), none, some (.int y3), some (.int y4)], []), (107, I, J, mm_rf rv sp rr w nw))) (b := ((45, [some (.ref 54), some (.int y1), none, some (.int y3), some (.int y4)], []), (107, I, J, mm_rf rv sp rr w nw))) rfl (fun h2232 => ?_) (fun h2232 => ?_)
    · rw [if_pos h2232] at e
      cases e
      refine mm_T.mask [false, false, false, false, false] ?_
      exact ke _ rfl
    · rw [if_neg h2232] at e
      refine mm_T.seg (f' := (49, [some (.ref 54), some (.int y1), none, some (.int y3), some (.int y4)], [(.ref 61)])) (h' := (107, I, J, mm_rf rv sp rr w nw)) 2 rfl ?_
      refine mm_T.seg (f' := (52, [some (.ref 54), some (.int y1), none, some (.int y3), some (.int y4)], [(.int y4), (.int y1), (.ref 61)])) (h' := (107, I, J, mm_rf rv sp rr w nw)) 2 rfl ?_
      obtain ⟨g404, hg404⟩ : ∃ z, fX10_tallyOf y1 y4 = z := ⟨_, rfl⟩
      try rw [hg404] at e
      refine mm_T.call (t := 153) (as := [(.int y1), (.int y4)]) (f' := (55, [some (.ref 54), some (.int y1), none, some (.int y3), some (.int y4)], [(.ref 61)])) rfl (tX10_tallyOf (d + 17) y1 y4 I J rv sp rr w nw g404 hg404) (fun v h hq => ?_)
      obtain ⟨rfl, rfl⟩ := hq
      refine mm_T.call (t := 204) (as := [(.ref 61), (.int g404)]) (f' := (58, [some (.ref 54), some (.int y1), none, some (.int y3), some (.int y4)], [])) rfl (t_pick _ 61 21 g404 I J (mm_rf rv sp rr w nw) rfl rfl) (fun v h hq => ?_)
      obtain ⟨rfl, rfl⟩ := hq
      refine mm_T.seg (f' := (59, [some (.ref 54), some (.int y1), none, some (.int y3), some (.int y4)], [(.int y3), (.int (mf_pick I 61 21 g404))])) (h' := (107, I, J, mm_rf rv sp rr w nw)) 1 rfl ?_
      refine mm_T.br (c := (mf_pick I 61 21 g404) = y3) (a := ((62, [some (.ref 54), some (.int y1), none, some (.int y3), some (.int y4)], []), (107, I, J, mm_rf rv sp rr w nw))) (b := ((65, [some (.ref 54), some (.int y1), none, some (.int y3), some (.int y4)], []), (107, I, J, mm_rf rv sp rr w nw))) rfl (fun h2233 => ?_) (fun h2233 => ?_)
      · rw [if_pos h2233] at e
        refine mm_T.seg (f' := (64, [some (.ref 54), some (.int y1), none, some (.int y3), some (.int y4)], [(.int y4)])) (h' := (107, I, J, mm_rf rv sp rr w nw)) 1 rfl ?_
        cases e
        exact mm_T.ret rfl (kr _ rfl)
      · rw [if_neg h2233] at e
        refine mm_T.seg (f' := (39, [some (.ref 54), some (.int y1), none, some (.int y3), some (.int (y4 + 1))], [])) (h' := (107, I, J, mm_rf rv sp rr w nw)) 2 rfl ?_
        refine mm_T.mask [true, true, false, true, true] ?_
        exact ih y1 y3 (y4 + 1) I J rv sp rr w nw out e kr ke
set_option maxRecDepth 100000 in
set_option maxHeartbeats 4000000 in
theorem tX10_sureSteer (d n : Nat) (x1 : Int32) (x2 : Int32) (I : Nat → Nat → Int32) (J : Nat → Nat → Int64) (rv sp rr w nw : Nat) (hrv : rv = 3 ∨ rv = 19) (out : Int32 × (Nat → Nat → Int32)) (e : fX10_sureSteer n x1 x2 I rv = some out) : mm_T none (d + 18) 155 (mm_ent 155 [(.ref 54), (.int x1), (.int x2)]) (107, I, J, mm_rf rv sp rr w nw) (fun v h => v = some (.int out.1) ∧ h = (107, out.2, J, mm_rf rv sp rr w nw)) := by
  rcases hrv with rfl | rfl
  · unfold fX10_sureSteer at e
    refine mm_T.seg (f' := (2, [some (.ref 54), some (.int x1), some (.int x2), none, none], [(.int 1), (.int x1)])) (h' := (107, I, J, mm_rf 3 sp rr w nw)) 2 rfl ?_
    refine mm_T.br (c := x1 < 1) (a := ((27, [some (.ref 54), some (.int x1), some (.int x2), none, none], []), (107, I, J, mm_rf 3 sp rr w nw))) (b := ((5, [some (.ref 54), some (.int x1), some (.int x2), none, none], []), (107, I, J, mm_rf 3 sp rr w nw))) rfl (fun h2226 => ?_) (fun h2226 => ?_)
    · rw [if_pos h2226] at e
      refine mm_T.seg (f' := (35, [some (.ref 54), some (.int x1), some (.int x2), some (.int 0), none], [(.int (-3))])) (h' := (107, I, J, mm_rf 3 sp rr w nw)) 5 rfl ?_
      cases e
      exact mm_T.ret rfl ⟨rfl, rfl⟩
    · rw [if_neg h2226] at e
      refine mm_T.seg (f' := (10, [some (.ref 54), some (.int x1), some (.int x2), none, none], [(.ref 18), (.int x1)])) (h' := (107, I, J, mm_rf 3 sp rr w nw)) 3 rfl ?_
      refine mm_T.seg (f' := (16, [some (.ref 54), some (.int x1), some (.int x2), none, none], [(.int (I 3 1)), (.int x1)])) (h' := (107, I, J, mm_rf 3 sp rr w nw)) 2 rfl ?_
      refine mm_T.br (c := (I 3 1) < x1) (a := ((27, [some (.ref 54), some (.int x1), some (.int x2), none, none], []), (107, I, J, mm_rf 3 sp rr w nw))) (b := ((19, [some (.ref 54), some (.int x1), some (.int x2), none, none], []), (107, I, J, mm_rf 3 sp rr w nw))) rfl (fun h2227 => ?_) (fun h2227 => ?_)
      · rw [if_pos h2227] at e
        refine mm_T.seg (f' := (35, [some (.ref 54), some (.int x1), some (.int x2), some (.int 0), none], [(.int (-3))])) (h' := (107, I, J, mm_rf 3 sp rr w nw)) 5 rfl ?_
        cases e
        exact mm_T.ret rfl ⟨rfl, rfl⟩
      · rw [if_neg h2227] at e
        refine mm_T.seg (f' := (21, [some (.ref 54), some (.int x1), some (.int x2), none, none], [(.int x2), (.ref 54)])) (h' := (107, I, J, mm_rf 3 sp rr w nw)) 2 rfl ?_
        obtain ⟨o2228, eo2228, e⟩ := mm_bind e
        refine mm_T.call (t := 152) (as := [(.ref 54), (.int x2)]) (f' := (24, [some (.ref 54), some (.int x1), some (.int x2), none, none], [])) rfl (tX10_countFits (d + 0) n x2 I J 3 sp rr w nw (Or.inl rfl) o2228 eo2228) (fun v h hq => ?_)
        obtain ⟨rfl, rfl⟩ := hq
        refine mm_T.seg (f' := (30, [some (.ref 54), some (.int x1), some (.int x2), some (.int o2228.1), none], [(.int o2228.1)])) (h' := (107, o2228.2, J, mm_rf 3 sp rr w nw)) 3 rfl ?_
        refine mm_T.br (c := o2228.1 = 0) (a := ((33, [some (.ref 54), some (.int x1), some (.int x2), some (.int o2228.1), none], []), (107, o2228.2, J, mm_rf 3 sp rr w nw))) (b := ((36, [some (.ref 54), some (.int x1), some (.int x2), some (.int o2228.1), none], []), (107, o2228.2, J, mm_rf 3 sp rr w nw))) rfl (fun h2229 => ?_) (fun h2229 => ?_)
        · rw [if_pos h2229] at e
          refine mm_T.seg (f' := (35, [some (.ref 54), some (.int x1), some (.int x2), some (.int o2228.1), none], [(.int (-3))])) (h' := (107, o2228.2, J, mm_rf 3 sp rr w nw)) 1 rfl ?_
          cases e
          exact mm_T.ret rfl ⟨rfl, rfl⟩
        · rw [if_neg h2229] at e
          refine mm_T.seg (f' := (39, [some (.ref 54), some (.int x1), some (.int x2), some (.int o2228.1), some (.int (-1))], [])) (h' := (107, o2228.2, J, mm_rf 3 sp rr w nw)) 2 rfl ?_
          refine mm_T.mask [true, true, false, true, true] ?_
          obtain ⟨o2234, eo2234, e⟩ := mm_bind e
          rcases o2234 with va2235 | vb2235
          · cases e
            refine tlX10_sureSteer_L39 d _ n x1 o2228.1 (-1) o2228.2 J 3 sp rr w nw _ eo2234 (fun z hz => ?_) (fun z hz => ?_)
            · cases hz; exact ⟨rfl, rfl⟩
            · cases hz
          · refine tlX10_sureSteer_L39 d _ n x1 o2228.1 (-1) o2228.2 J 3 sp rr w nw (.inr vb2235) eo2234 (fun z hz => ?_) (fun z hz => ?_)
            · cases hz
            · cases hz
              refine mm_T.seg (f' := (73, [none, none, none, none, none], [(.int (-2))])) (h' := (107, o2228.2, J, mm_rf 3 sp rr w nw)) 1 rfl ?_
              cases e
              exact mm_T.ret rfl ⟨rfl, rfl⟩
  · unfold fX10_sureSteer at e
    refine mm_T.seg (f' := (2, [some (.ref 54), some (.int x1), some (.int x2), none, none], [(.int 1), (.int x1)])) (h' := (107, I, J, mm_rf 19 sp rr w nw)) 2 rfl ?_
    refine mm_T.br (c := x1 < 1) (a := ((27, [some (.ref 54), some (.int x1), some (.int x2), none, none], []), (107, I, J, mm_rf 19 sp rr w nw))) (b := ((5, [some (.ref 54), some (.int x1), some (.int x2), none, none], []), (107, I, J, mm_rf 19 sp rr w nw))) rfl (fun h2226 => ?_) (fun h2226 => ?_)
    · rw [if_pos h2226] at e
      refine mm_T.seg (f' := (35, [some (.ref 54), some (.int x1), some (.int x2), some (.int 0), none], [(.int (-3))])) (h' := (107, I, J, mm_rf 19 sp rr w nw)) 5 rfl ?_
      cases e
      exact mm_T.ret rfl ⟨rfl, rfl⟩
    · rw [if_neg h2226] at e
      refine mm_T.seg (f' := (10, [some (.ref 54), some (.int x1), some (.int x2), none, none], [(.ref 18), (.int x1)])) (h' := (107, I, J, mm_rf 19 sp rr w nw)) 3 rfl ?_
      refine mm_T.seg (f' := (16, [some (.ref 54), some (.int x1), some (.int x2), none, none], [(.int (I 19 1)), (.int x1)])) (h' := (107, I, J, mm_rf 19 sp rr w nw)) 2 rfl ?_
      refine mm_T.br (c := (I 19 1) < x1) (a := ((27, [some (.ref 54), some (.int x1), some (.int x2), none, none], []), (107, I, J, mm_rf 19 sp rr w nw))) (b := ((19, [some (.ref 54), some (.int x1), some (.int x2), none, none], []), (107, I, J, mm_rf 19 sp rr w nw))) rfl (fun h2227 => ?_) (fun h2227 => ?_)
      · rw [if_pos h2227] at e
        refine mm_T.seg (f' := (35, [some (.ref 54), some (.int x1), some (.int x2), some (.int 0), none], [(.int (-3))])) (h' := (107, I, J, mm_rf 19 sp rr w nw)) 5 rfl ?_
        cases e
        exact mm_T.ret rfl ⟨rfl, rfl⟩
      · rw [if_neg h2227] at e
        refine mm_T.seg (f' := (21, [some (.ref 54), some (.int x1), some (.int x2), none, none], [(.int x2), (.ref 54)])) (h' := (107, I, J, mm_rf 19 sp rr w nw)) 2 rfl ?_
        obtain ⟨o2228, eo2228, e⟩ := mm_bind e
        refine mm_T.call (t := 152) (as := [(.ref 54), (.int x2)]) (f' := (24, [some (.ref 54), some (.int x1), some (.int x2), none, none], [])) rfl (tX10_countFits (d + 0) n x2 I J 19 sp rr w nw (Or.inr rfl) o2228 eo2228) (fun v h hq => ?_)
        obtain ⟨rfl, rfl⟩ := hq
        refine mm_T.seg (f' := (30, [some (.ref 54), some (.int x1), some (.int x2), some (.int o2228.1), none], [(.int o2228.1)])) (h' := (107, o2228.2, J, mm_rf 19 sp rr w nw)) 3 rfl ?_
        refine mm_T.br (c := o2228.1 = 0) (a := ((33, [some (.ref 54), some (.int x1), some (.int x2), some (.int o2228.1), none], []), (107, o2228.2, J, mm_rf 19 sp rr w nw))) (b := ((36, [some (.ref 54), some (.int x1), some (.int x2), some (.int o2228.1), none], []), (107, o2228.2, J, mm_rf 19 sp rr w nw))) rfl (fun h2229 => ?_) (fun h2229 => ?_)
        · rw [if_pos h2229] at e
          refine mm_T.seg (f' := (35, [some (.ref 54), some (.int x1), some (.int x2), some (.int o2228.1), none], [(.int (-3))])) (h' := (107, o2228.2, J, mm_rf 19 sp rr w nw)) 1 rfl ?_
          cases e
          exact mm_T.ret rfl ⟨rfl, rfl⟩
        · rw [if_neg h2229] at e
          refine mm_T.seg (f' := (39, [some (.ref 54), some (.int x1), some (.int x2), some (.int o2228.1), some (.int (-1))], [])) (h' := (107, o2228.2, J, mm_rf 19 sp rr w nw)) 2 rfl ?_
          refine mm_T.mask [true, true, false, true, true] ?_
          obtain ⟨o2234, eo2234, e⟩ := mm_bind e
          rcases o2234 with va2235 | vb2235
          · cases e
            refine tlX10_sureSteer_L39 d _ n x1 o2228.1 (-1) o2228.2 J 19 sp rr w nw _ eo2234 (fun z hz => ?_) (fun z hz => ?_)
            · cases hz; exact ⟨rfl, rfl⟩
            · cases hz
          · refine tlX10_sureSteer_L39 d _ n x1 o2228.1 (-1) o2228.2 J 19 sp rr w nw (.inr vb2235) eo2234 (fun z hz => ?_) (fun z hz => ?_)
            · cases hz
            · cases hz
              refine mm_T.seg (f' := (73, [none, none, none, none, none], [(.int (-2))])) (h' := (107, o2228.2, J, mm_rf 19 sp rr w nw)) 1 rfl ?_
              cases e
              exact mm_T.ret rfl ⟨rfl, rfl⟩
set_option maxRecDepth 100000 in
set_option maxHeartbeats 4000000 in
theorem tlX10_mostLeft_L4 (d : Nat) (Q : Option Value → mm_H → Prop) : ∀ (n : Nat) (y1 : Int32) (y2 : Int32) (y3 : Int32) (I : Nat → Nat → Int32) (J : Nat → Nat → Int64) (rv sp rr w nw : Nat), ∀ (out : Int32), fX10_mostLeft_L4 n y1 y2 y3 I = some out → mm_T none (d + 1) 156 (32, [none, none, some (.int out), none], []) (107, I, J, mm_rf rv sp rr w nw) Q → mm_T none (d + 1) 156 (4, [some (.ref 54), some (.int y1), some (.int y2), some (.int y3)], []) (107, I, J, mm_rf rv sp rr w nw) Q := by
  intro n
  induction n with
  | zero =>
    intro y1 y2 y3 I J rv sp rr w nw out e k
    rw [fX10_mostLeft_L4] at e; cases e
  | succ n ih =>
    intro y1 y2 y3 I J rv sp rr w nw out e k
    rw [fX10_mostLeft_L4] at e
    refine mm_T.seg (f' := (6, [some (.ref 54), some (.int y1), some (.int y2), some (.int y3)], [(.int 1), (.int y3)])) (h' := (107, I, J, mm_rf rv sp rr w nw)) 2 rfl ?_
    refine mm_T.br (c := 1 < y3) (a := ((32, [some (.ref 54), some (.int y1), some (.int y2), some (.int y3)], []), (107, I, J, mm_rf rv sp rr w nw))) (b := ((9, [some (.ref 54), some (.int y1), some (.int y2), some (.int y3)], []), (107, I, J, mm_rf rv sp rr w nw))) rfl (fun h2237 => ?_) (fun h2237 => ?_)
    · rw [if_pos h2237] at e
      cases e
      refine mm_T.mask [false, false, true, false] ?_
      exact k
    · rw [if_neg h2237] at e
      refine mm_T.seg (f' := (14, [some (.ref 54), some (.int y1), some (.int y2), some (.int y3)], [(.ref 61), (.int y2)])) (h' := (107, I, J, mm_rf rv sp rr w nw)) 3 rfl ?_
      refine mm_T.seg (f' := (16, [some (.ref 54), some (.int y1), some (.int y2), some (.int y3)], [(.int y3), (.int y1), (.ref 61), (.int y2)])) (h' := (107, I, J, mm_rf rv sp rr w nw)) 2 rfl ?_
      obtain ⟨g407, hg407⟩ : ∃ z, fX10_tallyOf y1 y3 = z := ⟨_, rfl⟩
      try rw [hg407] at e
      refine mm_T.call (t := 153) (as := [(.int y1), (.int y3)]) (f' := (19, [some (.ref 54), some (.int y1), some (.int y2), some (.int y3)], [(.ref 61), (.int y2)])) rfl (tX10_tallyOf (d + 0) y1 y3 I J rv sp rr w nw g407 hg407) (fun v h hq => ?_)
      obtain ⟨rfl, rfl⟩ := hq
      refine mm_T.call (t := 204) (as := [(.ref 61), (.int g407)]) (f' := (22, [some (.ref 54), some (.int y1), some (.int y2), some (.int y3)], [(.int y2)])) rfl (t_pick _ 61 21 g407 I J (mm_rf rv sp rr w nw) rfl rfl) (fun v h hq => ?_)
      obtain ⟨rfl, rfl⟩ := hq
      obtain ⟨g408, hg408⟩ : ∃ z, fJ9_max y2 (mf_pick I 61 21 g407) = z := ⟨_, rfl⟩
      try rw [hg408] at e
      refine mm_T.call (t := 347) (as := [(.int y2), (.int (mf_pick I 61 21 g407))]) (f' := (25, [some (.ref 54), some (.int y1), some (.int y2), some (.int y3)], [])) rfl (tJ9_max (d + 0) y2 (mf_pick I 61 21 g407) I J rv sp rr w nw g408 hg408) (fun v h hq => ?_)
      obtain ⟨rfl, rfl⟩ := hq
      refine mm_T.seg (f' := (4, [some (.ref 54), some (.int y1), some (.int g408), some (.int (y3 + 1))], [])) (h' := (107, I, J, mm_rf rv sp rr w nw)) 3 rfl ?_
      refine mm_T.mask [true, true, true, true] ?_
      exact ih y1 g408 (y3 + 1) I J rv sp rr w nw out e k
set_option maxRecDepth 100000 in
set_option maxHeartbeats 4000000 in
theorem tX10_mostLeft (d n : Nat) (x1 : Int32) (I : Nat → Nat → Int32) (J : Nat → Nat → Int64) (rv sp rr w nw : Nat) (out : Int32) (e : fX10_mostLeft n x1 I = some out) : mm_T none (d + 1) 156 (mm_ent 156 [(.ref 54), (.int x1)]) (107, I, J, mm_rf rv sp rr w nw) (fun v h => v = some (.int out) ∧ h = (107, I, J, mm_rf rv sp rr w nw)) := by
  unfold fX10_mostLeft at e
  refine mm_T.seg (f' := (4, [some (.ref 54), some (.int x1), some (.int 0), some (.int (-1))], [])) (h' := (107, I, J, mm_rf rv sp rr w nw)) 4 rfl ?_
  refine mm_T.mask [true, true, true, true] ?_
  obtain ⟨o2238, eo2238, e⟩ := mm_bind e
  refine tlX10_mostLeft_L4 d _ n x1 0 (-1) I J rv sp rr w nw o2238 eo2238 ?_
  refine mm_T.seg (f' := (33, [none, none, some (.int o2238), none], [(.int o2238)])) (h' := (107, I, J, mm_rf rv sp rr w nw)) 1 rfl ?_
  cases e
  exact mm_T.ret rfl ⟨rfl, rfl⟩
set_option maxRecDepth 100000 in
set_option maxHeartbeats 4000000 in
theorem tlX10_strokeToAsk_L14 (d : Nat) (Q : Option Value → mm_H → Prop) : ∀ (n : Nat) (y2 : Int32) (y3 : Int32) (I : Nat → Nat → Int32) (J : Nat → Nat → Int64) (rv sp rr w nw : Nat), (rv = 3 ∨ rv = 19) → ∀ (out : Int32), fX10_strokeToAsk_L14 n y2 y3 I rv = some out → mm_T none (d + 18) 157 (49, [none, none, some (.int out), none], []) (107, I, J, mm_rf rv sp rr w nw) Q → mm_T none (d + 18) 157 (14, [some (.ref 54), none, some (.int y2), some (.int y3)], []) (107, I, J, mm_rf rv sp rr w nw) Q := by
  intro n
  induction n with
  | zero =>
    intro y2 y3 I J rv sp rr w nw hrv out e k
    rw [fX10_strokeToAsk_L14] at e; cases e
  | succ n ih =>
    intro y2 y3 I J rv sp rr w nw hrv out e k
    rcases hrv with rfl | rfl
    · rw [fX10_strokeToAsk_L14] at e
      refine mm_T.seg (f' := (19, [some (.ref 54), none, some (.int y2), some (.int y3)], [(.ref 18), (.int y3)])) (h' := (107, I, J, mm_rf 3 sp rr w nw)) 3 rfl ?_
      refine mm_T.seg (f' := (25, [some (.ref 54), none, some (.int y2), some (.int y3)], [(.int (I 3 1)), (.int y3)])) (h' := (107, I, J, mm_rf 3 sp rr w nw)) 2 rfl ?_
      refine mm_T.br (c := (I 3 1) < y3) (a := ((49, [some (.ref 54), none, some (.int y2), some (.int y3)], []), (107, I, J, mm_rf 3 sp rr w nw))) (b := ((28, [some (.ref 54), none, some (.int y2), some (.int y3)], []), (107, I, J, mm_rf 3 sp rr w nw))) rfl (fun h2245 => ?_) (fun h2245 => ?_)
      · rw [if_pos h2245] at e
        cases e
        refine mm_T.mask [false, false, true, false] ?_
        exact k
      · rw [if_neg h2245] at e
        refine mm_T.seg (f' := (30, [some (.ref 54), none, some (.int y2), some (.int y3)], [(.int y3), (.ref 54)])) (h' := (107, I, J, mm_rf 3 sp rr w nw)) 2 rfl ?_
        obtain ⟨o2246, eo2246, e⟩ := mm_bind e
        refine mm_T.call (t := 156) (as := [(.ref 54), (.int y3)]) (f' := (33, [some (.ref 54), none, some (.int y2), some (.int y3)], [])) rfl (tX10_mostLeft (d + 16) n y3 I J 3 sp rr w nw o2246 eo2246) (fun v h hq => ?_)
        obtain ⟨rfl, rfl⟩ := hq
        refine mm_T.seg (f' := (35, [some (.ref 54), none, some (.int y2), some (.int y3)], [(.int y2), (.ref 54), (.int o2246)])) (h' := (107, I, J, mm_rf 3 sp rr w nw)) 2 rfl ?_
        obtain ⟨o2247, eo2247, e⟩ := mm_bind e
        refine mm_T.call (t := 156) (as := [(.ref 54), (.int y2)]) (f' := (38, [some (.ref 54), none, some (.int y2), some (.int y3)], [(.int o2246)])) rfl (tX10_mostLeft (d + 16) n y2 I J 3 sp rr w nw o2247 eo2247) (fun v h hq => ?_)
        obtain ⟨rfl, rfl⟩ := hq
        refine mm_T.br (c := o2246 < o2247) (a := ((41, [some (.ref 54), none, some (.int y2), some (.int y3)], []), (107, I, J, mm_rf 3 sp rr w nw))) (b := ((43, [some (.ref 54), none, some (.int y2), some (.int y3)], []), (107, I, J, mm_rf 3 sp rr w nw))) rfl (fun h2248 => ?_) (fun h2248 => ?_)
        · rw [if_pos h2248] at e
          refine mm_T.seg (f' := (14, [some (.ref 54), none, some (.int y3), some (.int (y3 + 1))], [])) (h' := (107, I, J, mm_rf 3 sp rr w nw)) 4 rfl ?_
          refine mm_T.mask [true, false, true, true] ?_
          exact ih y3 (y3 + 1) I J 3 sp rr w nw (Or.inl rfl) out e k
        · rw [if_neg h2248] at e
          refine mm_T.seg (f' := (14, [some (.ref 54), none, some (.int y2), some (.int (y3 + 1))], [])) (h' := (107, I, J, mm_rf 3 sp rr w nw)) 2 rfl ?_
          refine mm_T.mask [true, false, true, true] ?_
          exact ih y2 (y3 + 1) I J 3 sp rr w nw (Or.inl rfl) out e k
    · rw [fX10_strokeToAsk_L14] at e
      refine mm_T.seg (f' := (19, [some (.ref 54), none, some (.int y2), some (.int y3)], [(.ref 18), (.int y3)])) (h' := (107, I, J, mm_rf 19 sp rr w nw)) 3 rfl ?_
      refine mm_T.seg (f' := (25, [some (.ref 54), none, some (.int y2), some (.int y3)], [(.int (I 19 1)), (.int y3)])) (h' := (107, I, J, mm_rf 19 sp rr w nw)) 2 rfl ?_
      refine mm_T.br (c := (I 19 1) < y3) (a := ((49, [some (.ref 54), none, some (.int y2), some (.int y3)], []), (107, I, J, mm_rf 19 sp rr w nw))) (b := ((28, [some (.ref 54), none, some (.int y2), some (.int y3)], []), (107, I, J, mm_rf 19 sp rr w nw))) rfl (fun h2245 => ?_) (fun h2245 => ?_)
      · rw [if_pos h2245] at e
        cases e
        refine mm_T.mask [false, false, true, false] ?_
        exact k
      · rw [if_neg h2245] at e
        refine mm_T.seg (f' := (30, [some (.ref 54), none, some (.int y2), some (.int y3)], [(.int y3), (.ref 54)])) (h' := (107, I, J, mm_rf 19 sp rr w nw)) 2 rfl ?_
        obtain ⟨o2246, eo2246, e⟩ := mm_bind e
        refine mm_T.call (t := 156) (as := [(.ref 54), (.int y3)]) (f' := (33, [some (.ref 54), none, some (.int y2), some (.int y3)], [])) rfl (tX10_mostLeft (d + 16) n y3 I J 19 sp rr w nw o2246 eo2246) (fun v h hq => ?_)
        obtain ⟨rfl, rfl⟩ := hq
        refine mm_T.seg (f' := (35, [some (.ref 54), none, some (.int y2), some (.int y3)], [(.int y2), (.ref 54), (.int o2246)])) (h' := (107, I, J, mm_rf 19 sp rr w nw)) 2 rfl ?_
        obtain ⟨o2247, eo2247, e⟩ := mm_bind e
        refine mm_T.call (t := 156) (as := [(.ref 54), (.int y2)]) (f' := (38, [some (.ref 54), none, some (.int y2), some (.int y3)], [(.int o2246)])) rfl (tX10_mostLeft (d + 16) n y2 I J 19 sp rr w nw o2247 eo2247) (fun v h hq => ?_)
        obtain ⟨rfl, rfl⟩ := hq
        refine mm_T.br (c := o2246 < o2247) (a := ((41, [some (.ref 54), none, some (.int y2), some (.int y3)], []), (107, I, J, mm_rf 19 sp rr w nw))) (b := ((43, [some (.ref 54), none, some (.int y2), some (.int y3)], []), (107, I, J, mm_rf 19 sp rr w nw))) rfl (fun h2248 => ?_) (fun h2248 => ?_)
        · rw [if_pos h2248] at e
          refine mm_T.seg (f' := (14, [some (.ref 54), none, some (.int y3), some (.int (y3 + 1))], [])) (h' := (107, I, J, mm_rf 19 sp rr w nw)) 4 rfl ?_
          refine mm_T.mask [true, false, true, true] ?_
          exact ih y3 (y3 + 1) I J 19 sp rr w nw (Or.inr rfl) out e k
        · rw [if_neg h2248] at e
          refine mm_T.seg (f' := (14, [some (.ref 54), none, some (.int y2), some (.int (y3 + 1))], [])) (h' := (107, I, J, mm_rf 19 sp rr w nw)) 2 rfl ?_
          refine mm_T.mask [true, false, true, true] ?_
          exact ih y2 (y3 + 1) I J 19 sp rr w nw (Or.inr rfl) out e k
set_option maxRecDepth 100000 in
set_option maxHeartbeats 4000000 in
theorem tX10_strokeToAsk (d n : Nat) (x1 : Int32) (I : Nat → Nat → Int32) (J : Nat → Nat → Int64) (rv sp rr w nw : Nat) (hrv : rv = 3 ∨ rv = 19) (out : Int32 × (Nat → Nat → Int32)) (e : fX10_strokeToAsk n x1 I rv = some out) : mm_T none (d + 18) 157 (mm_ent 157 [(.ref 54), (.int x1)]) (107, I, J, mm_rf rv sp rr w nw) (fun v h => v = some (.int out.1) ∧ h = (107, out.2, J, mm_rf rv sp rr w nw)) := by
  rcases hrv with rfl | rfl
  · unfold fX10_strokeToAsk at e
    refine mm_T.seg (f' := (2, [some (.ref 54), some (.int x1), none, none], [(.int x1), (.ref 54)])) (h' := (107, I, J, mm_rf 3 sp rr w nw)) 2 rfl ?_
    obtain ⟨o2239, eo2239, e⟩ := mm_bind e
    refine mm_T.call (t := 152) (as := [(.ref 54), (.int x1)]) (f' := (5, [some (.ref 54), some (.int x1), none, none], [])) rfl (tX10_countFits (d + 0) n x1 I J 3 sp rr w nw (Or.inl rfl) o2239 eo2239) (fun v h hq => ?_)
    obtain ⟨rfl, rfl⟩ := hq
    refine mm_T.br (c := o2239.1 = 0) (a := ((8, [some (.ref 54), some (.int x1), none, none], []), (107, o2239.2, J, mm_rf 3 sp rr w nw))) (b := ((10, [some (.ref 54), some (.int x1), none, none], []), (107, o2239.2, J, mm_rf 3 sp rr w nw))) rfl (fun h2240 => ?_) (fun h2240 => ?_)
    · rw [if_pos h2240] at e
      refine mm_T.seg (f' := (9, [some (.ref 54), some (.int x1), none, none], [(.int (-1))])) (h' := (107, o2239.2, J, mm_rf 3 sp rr w nw)) 1 rfl ?_
      cases e
      exact mm_T.ret rfl ⟨rfl, rfl⟩
    · rw [if_neg h2240] at e
      refine mm_T.seg (f' := (14, [some (.ref 54), some (.int x1), some (.int 1), some (.int 2)], [])) (h' := (107, o2239.2, J, mm_rf 3 sp rr w nw)) 4 rfl ?_
      refine mm_T.mask [true, false, true, true] ?_
      obtain ⟨o2249, eo2249, e⟩ := mm_bind e
      refine tlX10_strokeToAsk_L14 d _ n 1 2 o2239.2 J 3 sp rr w nw (Or.inl rfl) o2249 eo2249 ?_
      refine mm_T.seg (f' := (50, [none, none, some (.int o2249), none], [(.int o2249)])) (h' := (107, o2239.2, J, mm_rf 3 sp rr w nw)) 1 rfl ?_
      cases e
      exact mm_T.ret rfl ⟨rfl, rfl⟩
  · unfold fX10_strokeToAsk at e
    refine mm_T.seg (f' := (2, [some (.ref 54), some (.int x1), none, none], [(.int x1), (.ref 54)])) (h' := (107, I, J, mm_rf 19 sp rr w nw)) 2 rfl ?_
    obtain ⟨o2239, eo2239, e⟩ := mm_bind e
    refine mm_T.call (t := 152) (as := [(.ref 54), (.int x1)]) (f' := (5, [some (.ref 54), some (.int x1), none, none], [])) rfl (tX10_countFits (d + 0) n x1 I J 19 sp rr w nw (Or.inr rfl) o2239 eo2239) (fun v h hq => ?_)
    obtain ⟨rfl, rfl⟩ := hq
    refine mm_T.br (c := o2239.1 = 0) (a := ((8, [some (.ref 54), some (.int x1), none, none], []), (107, o2239.2, J, mm_rf 19 sp rr w nw))) (b := ((10, [some (.ref 54), some (.int x1), none, none], []), (107, o2239.2, J, mm_rf 19 sp rr w nw))) rfl (fun h2240 => ?_) (fun h2240 => ?_)
    · rw [if_pos h2240] at e
      refine mm_T.seg (f' := (9, [some (.ref 54), some (.int x1), none, none], [(.int (-1))])) (h' := (107, o2239.2, J, mm_rf 19 sp rr w nw)) 1 rfl ?_
      cases e
      exact mm_T.ret rfl ⟨rfl, rfl⟩
    · rw [if_neg h2240] at e
      refine mm_T.seg (f' := (14, [some (.ref 54), some (.int x1), some (.int 1), some (.int 2)], [])) (h' := (107, o2239.2, J, mm_rf 19 sp rr w nw)) 4 rfl ?_
      refine mm_T.mask [true, false, true, true] ?_
      obtain ⟨o2249, eo2249, e⟩ := mm_bind e
      refine tlX10_strokeToAsk_L14 d _ n 1 2 o2239.2 J 19 sp rr w nw (Or.inr rfl) o2249 eo2249 ?_
      refine mm_T.seg (f' := (50, [none, none, some (.int o2249), none], [(.int o2249)])) (h' := (107, o2239.2, J, mm_rf 19 sp rr w nw)) 1 rfl ?_
      cases e
      exact mm_T.ret rfl ⟨rfl, rfl⟩
set_option maxRecDepth 100000 in
set_option maxHeartbeats 4000000 in
theorem tlX11_putFour_L3 (d : Nat) (Q : Option Value → mm_H → Prop) : ∀ (n : Nat) (y1 : Int32) (y2 : Int32) (I : Nat → Nat → Int32) (J : Nat → Nat → Int64) (rv sp rr w nw : Nat), ∀ (out : (Nat → Nat → Int32)), fX11_putFour_L3 n y1 y2 I = some out → mm_T none (d + 0) 160 (55, [none, none, none], []) (107, out, J, mm_rf rv sp rr w nw) Q → mm_T none (d + 0) 160 (3, [some (.ref 1), some (.int y1), some (.int y2)], []) (107, I, J, mm_rf rv sp rr w nw) Q := by
  intro n
  induction n with
  | zero =>
    intro y1 y2 I J rv sp rr w nw out e k
    rw [fX11_putFour_L3] at e; cases e
  | succ n ih =>
    intro y1 y2 I J rv sp rr w nw out e k
    rw [fX11_putFour_L3] at e
    refine mm_T.seg (f' := (4, [some (.ref 1), some (.int y1), some (.int y2)], [(.int y2)])) (h' := (107, I, J, mm_rf rv sp rr w nw)) 1 rfl ?_
    refine mm_T.br (c := y2 < 0) (a := ((55, [some (.ref 1), some (.int y1), some (.int y2)], []), (107, I, J, mm_rf rv sp rr w nw))) (b := ((7, [some (.ref 1), some (.int y1), some (.int y2)], []), (107, I, J, mm_rf rv sp rr w nw))) rfl (fun h2251 => ?_) (fun h2251 => ?_)
    · rw [if_pos h2251] at e
      cases e
      refine mm_T.mask [false, false, false] ?_
      exact k
    · rw [if_neg h2251] at e
      refine mm_T.seg (f' := (11, [some (.ref 1), some (.int y1), some (.int y2)], [(.int (I 1 1))])) (h' := (107, I, J, mm_rf rv sp rr w nw)) 2 rfl ?_
      refine mm_T.br (c := (I 1 1) < 0) (a := ((49, [some (.ref 1), some (.int y1), some (.int y2)], []), (107, I, J, mm_rf rv sp rr w nw))) (b := ((14, [some (.ref 1), some (.int y1), some (.int y2)], []), (107, I, J, mm_rf rv sp rr w nw))) rfl (fun h2252 => ?_) (fun h2252 => ?_)
      · rw [if_pos h2252] at e
        refine mm_T.seg (f' := (3, [some (.ref 1), some (.int y1), some (.int (y2 + (-8)))], [])) (h' := (107, I, J, mm_rf rv sp rr w nw)) 2 rfl ?_
        refine mm_T.mask [true, true, true] ?_
        exact ih y1 (y2 + (-8)) I J rv sp rr w nw out e k
      · rw [if_neg h2252] at e
        refine mm_T.seg (f' := (22, [some (.ref 1), some (.int y1), some (.int y2)], [(.ref 2), (.int (I 1 1))])) (h' := (107, I, J, mm_rf rv sp rr w nw)) 4 rfl ?_
        refine mm_T.seg (f' := (23, [some (.ref 1), some (.int y1), some (.int y2)], [(.int 1600), (.int (I 1 1))])) (h' := (107, I, J, mm_rf rv sp rr w nw)) 1 rfl ?_
        refine mm_T.br (c := (I 1 1) < 1600) (a := ((26, [some (.ref 1), some (.int y1), some (.int y2)], []), (107, I, J, mm_rf rv sp rr w nw))) (b := ((49, [some (.ref 1), some (.int y1), some (.int y2)], []), (107, I, J, mm_rf rv sp rr w nw))) rfl (fun h2253 => ?_) (fun h2253 => ?_)
        · rw [if_pos h2253] at e
          refine mm_T.seg (f' := (30, [some (.ref 1), some (.int y1), some (.int y2)], [(.ref 2)])) (h' := (107, I, J, mm_rf rv sp rr w nw)) 2 rfl ?_
          refine mm_T.seg (f' := (38, [some (.ref 1), some (.int y1), some (.int y2)], [(.int (y1 >>> (y2 &&& 31)).toInt8.toInt32), (.int (I 1 1)), (.ref 2)])) (h' := (107, I, J, mm_rf rv sp rr w nw)) 6 rfl ?_
          by_cases h2254 : (I 1 1) < 0 ∨ 1600 ≤ (I 1 1).toNatClampNeg
          · rw [if_pos h2254] at e; cases e
          rw [if_neg h2254] at e
          refine mm_T.guard (y := ((39, [some (.ref 1), some (.int y1), some (.int y2)], []), (107, (mm_up I 2 (I 1 1).toNatClampNeg (vp_nar .byte (y1 >>> (y2 &&& 31)).toInt8.toInt32)), J, mm_rf rv sp rr w nw))) rfl h2254 ?_
          refine mm_T.seg (f' := (3, [some (.ref 1), some (.int y1), some (.int (y2 + (-8)))], [])) (h' := (107, (mm_up (mm_up I 2 (I 1 1).toNatClampNeg (vp_nar .byte (y1 >>> (y2 &&& 31)).toInt8.toInt32)) 1 1 ((I 1 1) + 1)), J, mm_rf rv sp rr w nw)) 8 rfl ?_
          refine mm_T.mask [true, true, true] ?_
          exact ih y1 (y2 + (-8)) (mm_up (mm_up I 2 (I 1 1).toNatClampNeg (vp_nar .byte (y1 >>> (y2 &&& 31)).toInt8.toInt32)) 1 1 ((I 1 1) + 1)) J rv sp rr w nw out e k
        · rw [if_neg h2253] at e
          refine mm_T.seg (f' := (3, [some (.ref 1), some (.int y1), some (.int (y2 + (-8)))], [])) (h' := (107, I, J, mm_rf rv sp rr w nw)) 2 rfl ?_
          refine mm_T.mask [true, true, true] ?_
          exact ih y1 (y2 + (-8)) I J rv sp rr w nw out e k
set_option maxRecDepth 100000 in
set_option maxHeartbeats 4000000 in
theorem tX11_putFour (d n : Nat) (x1 : Int32) (I : Nat → Nat → Int32) (J : Nat → Nat → Int64) (rv sp rr w nw : Nat) (out : (Nat → Nat → Int32)) (e : fX11_putFour n x1 I = some out) : mm_T none (d + 0) 160 (mm_ent 160 [(.ref 1), (.int x1)]) (107, I, J, mm_rf rv sp rr w nw) (fun v h => v = none ∧ h = (107, out, J, mm_rf rv sp rr w nw)) := by
  unfold fX11_putFour at e
  refine mm_T.seg (f' := (3, [some (.ref 1), some (.int x1), some (.int 24)], [])) (h' := (107, I, J, mm_rf rv sp rr w nw)) 2 rfl ?_
  refine mm_T.mask [true, true, true] ?_
  obtain ⟨o2255, eo2255, e⟩ := mm_bind e
  refine tlX11_putFour_L3 d _ n x1 24 I J rv sp rr w nw o2255 eo2255 ?_
  cases e
  exact mm_T.ret rfl ⟨rfl, rfl⟩
set_option maxRecDepth 100000 in
set_option maxHeartbeats 4000000 in
theorem tX11_feed (d n : Nat) (x1 : Int32) (x2 : Int32) (x3 : Int32) (x4 : Int32) (x5 : Int32) (I : Nat → Nat → Int32) (J : Nat → Nat → Int64) (rv sp rr w nw : Nat) (out : Int32 × (Nat → Nat → Int32)) (e : fX11_feed n x1 x2 x3 x4 x5 I = some out) : mm_T none (d + 1) 159 (mm_ent 159 [(.ref 1), (.int x1), (.int x2), (.int x3), (.int x4), (.int x5)]) (107, I, J, mm_rf rv sp rr w nw) (fun v h => v = some (.int out.1) ∧ h = (107, out.2, J, mm_rf rv sp rr w nw)) := by
  unfold fX11_feed at e
  refine mm_T.seg (f' := (7, [some (.ref 1), some (.int x1), some (.int x2), some (.int x3), some (.int x4), some (.int x5)], [(.int 1580), (.int (I 1 1))])) (h' := (107, I, J, mm_rf rv sp rr w nw)) 3 rfl ?_
  refine mm_T.br (c := 1580 < (I 1 1)) (a := ((10, [some (.ref 1), some (.int x1), some (.int x2), some (.int x3), some (.int x4), some (.int x5)], []), (107, I, J, mm_rf rv sp rr w nw))) (b := ((12, [some (.ref 1), some (.int x1), some (.int x2), some (.int x3), some (.int x4), some (.int x5)], []), (107, I, J, mm_rf rv sp rr w nw))) rfl (fun h2250 => ?_) (fun h2250 => ?_)
  · rw [if_pos h2250] at e
    refine mm_T.seg (f' := (11, [some (.ref 1), some (.int x1), some (.int x2), some (.int x3), some (.int x4), some (.int x5)], [(.int (-1))])) (h' := (107, I, J, mm_rf rv sp rr w nw)) 1 rfl ?_
    cases e
    exact mm_T.ret rfl ⟨rfl, rfl⟩
  · rw [if_neg h2250] at e
    refine mm_T.seg (f' := (14, [some (.ref 1), some (.int x1), some (.int x2), some (.int x3), some (.int x4), some (.int x5)], [(.int x1), (.ref 1)])) (h' := (107, I, J, mm_rf rv sp rr w nw)) 2 rfl ?_
    obtain ⟨o2256, eo2256, e⟩ := mm_bind e
    refine mm_T.call (t := 160) (as := [(.ref 1), (.int x1)]) (f' := (17, [some (.ref 1), some (.int x1), some (.int x2), some (.int x3), some (.int x4), some (.int x5)], [])) rfl (tX11_putFour (d + 0) n x1 I J rv sp rr w nw o2256 eo2256) (fun v h hq => ?_)
    obtain ⟨rfl, rfl⟩ := hq
    refine mm_T.seg (f' := (19, [some (.ref 1), some (.int x1), some (.int x2), some (.int x3), some (.int x4), some (.int x5)], [(.int x2), (.ref 1)])) (h' := (107, o2256, J, mm_rf rv sp rr w nw)) 2 rfl ?_
    obtain ⟨o2257, eo2257, e⟩ := mm_bind e
    refine mm_T.call (t := 160) (as := [(.ref 1), (.int x2)]) (f' := (22, [some (.ref 1), some (.int x1), some (.int x2), some (.int x3), some (.int x4), some (.int x5)], [])) rfl (tX11_putFour (d + 0) n x2 o2256 J rv sp rr w nw o2257 eo2257) (fun v h hq => ?_)
    obtain ⟨rfl, rfl⟩ := hq
    refine mm_T.seg (f' := (24, [some (.ref 1), some (.int x1), some (.int x2), some (.int x3), some (.int x4), some (.int x5)], [(.int x3), (.ref 1)])) (h' := (107, o2257, J, mm_rf rv sp rr w nw)) 2 rfl ?_
    obtain ⟨o2258, eo2258, e⟩ := mm_bind e
    refine mm_T.call (t := 160) (as := [(.ref 1), (.int x3)]) (f' := (27, [some (.ref 1), some (.int x1), some (.int x2), some (.int x3), some (.int x4), some (.int x5)], [])) rfl (tX11_putFour (d + 0) n x3 o2257 J rv sp rr w nw o2258 eo2258) (fun v h hq => ?_)
    obtain ⟨rfl, rfl⟩ := hq
    refine mm_T.seg (f' := (30, [some (.ref 1), some (.int x1), some (.int x2), some (.int x3), some (.int x4), some (.int x5)], [(.int x4), (.ref 1)])) (h' := (107, o2258, J, mm_rf rv sp rr w nw)) 2 rfl ?_
    obtain ⟨o2259, eo2259, e⟩ := mm_bind e
    refine mm_T.call (t := 160) (as := [(.ref 1), (.int x4)]) (f' := (33, [some (.ref 1), some (.int x1), some (.int x2), some (.int x3), some (.int x4), some (.int x5)], [])) rfl (tX11_putFour (d + 0) n x4 o2258 J rv sp rr w nw o2259 eo2259) (fun v h hq => ?_)
    obtain ⟨rfl, rfl⟩ := hq
    refine mm_T.seg (f' := (36, [some (.ref 1), some (.int x1), some (.int x2), some (.int x3), some (.int x4), some (.int x5)], [(.int x5), (.ref 1)])) (h' := (107, o2259, J, mm_rf rv sp rr w nw)) 2 rfl ?_
    obtain ⟨o2260, eo2260, e⟩ := mm_bind e
    refine mm_T.call (t := 160) (as := [(.ref 1), (.int x5)]) (f' := (39, [some (.ref 1), some (.int x1), some (.int x2), some (.int x3), some (.int x4), some (.int x5)], [])) rfl (tX11_putFour (d + 0) n x5 o2259 J rv sp rr w nw o2260 eo2260) (fun v h hq => ?_)
    obtain ⟨rfl, rfl⟩ := hq
    refine mm_T.seg (f' := (43, [some (.ref 1), some (.int x1), some (.int x2), some (.int x3), some (.int x4), some (.int x5)], [(.int (o2260 1 1))])) (h' := (107, o2260, J, mm_rf rv sp rr w nw)) 2 rfl ?_
    cases e
    exact mm_T.ret rfl ⟨rfl, rfl⟩
set_option maxRecDepth 100000 in
set_option maxHeartbeats 4000000 in
theorem tX11_end (d : Nat) (x1 : Int32) (I : Nat → Nat → Int32) (J : Nat → Nat → Int64) (rv sp rr w nw : Nat) (out : Int32 × (Nat → Nat → Int32)) (e : fX11_end x1 I = out) : mm_T none (d + 0) 161 (mm_ent 161 [(.ref 1), (.int x1)]) (107, I, J, mm_rf rv sp rr w nw) (fun v h => v = some (.int out.1) ∧ h = (107, out.2, J, mm_rf rv sp rr w nw)) := by
  unfold fX11_end at e
  refine mm_T.seg (f' := (1, [some (.ref 1), some (.int x1)], [(.int x1)])) (h' := (107, I, J, mm_rf rv sp rr w nw)) 1 rfl ?_
  refine mm_T.br (c := x1 < 0) (a := ((12, [some (.ref 1), some (.int x1)], []), (107, I, J, mm_rf rv sp rr w nw))) (b := ((4, [some (.ref 1), some (.int x1)], []), (107, I, J, mm_rf rv sp rr w nw))) rfl (fun h2261 => ?_) (fun h2261 => ?_)
  · rw [if_pos h2261] at e
    refine mm_T.seg (f' := (13, [some (.ref 1), some (.int x1)], [(.int (-1))])) (h' := (107, I, J, mm_rf rv sp rr w nw)) 1 rfl ?_
    cases e
    exact mm_T.ret rfl ⟨rfl, rfl⟩
  · rw [if_neg h2261] at e
    refine mm_T.seg (f' := (9, [some (.ref 1), some (.int x1)], [(.int (I 1 1)), (.int x1)])) (h' := (107, I, J, mm_rf rv sp rr w nw)) 3 rfl ?_
    refine mm_T.br (c := (I 1 1) < x1) (a := ((12, [some (.ref 1), some (.int x1)], []), (107, I, J, mm_rf rv sp rr w nw))) (b := ((14, [some (.ref 1), some (.int x1)], []), (107, I, J, mm_rf rv sp rr w nw))) rfl (fun h2262 => ?_) (fun h2262 => ?_)
    · rw [if_pos h2262] at e
      refine mm_T.seg (f' := (13, [some (.ref 1), some (.int x1)], [(.int (-1))])) (h' := (107, I, J, mm_rf rv sp rr w nw)) 1 rfl ?_
      cases e
      exact mm_T.ret rfl ⟨rfl, rfl⟩
    · rw [if_neg h2262] at e
      refine mm_T.seg (f' := (20, [some (.ref 1), some (.int x1)], [(.int x1)])) (h' := (107, (mm_up I 1 1 x1), J, mm_rf rv sp rr w nw)) 4 rfl ?_
      cases e
      exact mm_T.ret rfl ⟨rfl, rfl⟩
set_option maxRecDepth 100000 in
set_option maxHeartbeats 4000000 in
theorem tlX4_read_2_L58 (d : Nat) (Q : Option Value → mm_H → Prop) : ∀ (n : Nat) (y4 : Int32) (p3 : Nat) (I : Nat → Nat → Int32) (J : Nat → Nat → Int64) (rv sp rr w nw : Nat), (p3 = 3 ∨ p3 = 19) → (rr = 3 ∨ rr = 19) → ∀ (out : (Int32 ⊕ (Unit)) × (Nat → Nat → Int32) × (Nat → Nat → Int64)), fX4_read_2_L58 n y4 p3 I J rr = some out → (∀ (r : Int32) (s0 : Nat → Nat → Int32) (s1 : Nat → Nat → Int64), out = (.inl r, s0, s1) → Q (some (.int r)) (107, s0, s1, mm_rf rv sp rr w nw)) → (∀ (y : Unit) (s0 : Nat → Nat → Int32) (s1 : Nat → Nat → Int64), out = (.inr y, s0, s1) → mm_T none (d + 107) 29 (88, [none, none, none, none, none], []) (107, s0, s1, mm_rf rv sp rr w nw) Q) → mm_T none (d + 107) 29 (58, [some (.ref 16), none, none, none, some (.int y4)], []) (107, I, J, mm_rf rv sp rr w nw) Q := by
  intro n
  induction n with
  | zero =>
    intro y4 p3 I J rv sp rr w nw hp3 hrr out e kr ke
    rw [fX4_read_2_L58] at e; cases e
  | succ n ih =>
    intro y4 p3 I J rv sp rr w nw hp3 hrr out e kr ke
    rcases hp3, hrr with ⟨rfl | rfl, rfl | rfl⟩
    · rw [fX4_read_2_L58] at e
      refine mm_T.seg (f' := (63, [some (.ref 16), none, none, none, some (.int y4)], [(.int 1600), (.int y4)])) (h' := (107, I, J, mm_rf rv sp 3 w nw)) 2 rfl ?_
      refine mm_T.br (c := y4 < 1600) (a := ((66, [some (.ref 16), none, none, none, some (.int y4)], []), (107, I, J, mm_rf rv sp 3 w nw))) (b := ((88, [some (.ref 16), none, none, none, some (.int y4)], []), (107, I, J, mm_rf rv sp 3 w nw))) rfl (fun h2268 => ?_) (fun h2268 => ?_)
      · rw [if_pos h2268] at e
        refine mm_T.seg (f' := (70, [some (.ref 16), none, none, none, some (.int y4)], [(.int (I 16 5))])) (h' := (107, I, J, mm_rf rv sp 3 w nw)) 2 rfl ?_
        refine mm_T.br (c := (I 16 5) = 0) (a := ((88, [some (.ref 16), none, none, none, some (.int y4)], []), (107, I, J, mm_rf rv sp 3 w nw))) (b := ((73, [some (.ref 16), none, none, none, some (.int y4)], []), (107, I, J, mm_rf rv sp 3 w nw))) rfl (fun h2269 => ?_) (fun h2269 => ?_)
        · rw [if_pos h2269] at e
          cases e
          refine mm_T.mask [false, false, false, false, false] ?_
          exact ke _ _ _ rfl
        · rw [if_neg h2269] at e
          refine mm_T.seg (f' := (74, [some (.ref 16), none, none, none, some (.int y4)], [(.ref 16)])) (h' := (107, I, J, mm_rf rv sp 3 w nw)) 1 rfl ?_
          obtain ⟨o2270, eo2270, e⟩ := mm_bind e
          refine mm_T.call (t := 44) (as := [(.ref 16)]) (f' := (77, [some (.ref 16), none, none, none, some (.int y4)], [])) rfl (tX4_readLine (d + 0) n I J rv sp 3 w nw (Or.inl rfl) o2270 eo2270) (fun v h hq => ?_)
          obtain ⟨rfl, rfl⟩ := hq
          refine mm_T.br (c := o2270.1 = 0) (a := ((80, [some (.ref 16), none, none, none, some (.int y4)], []), (107, o2270.2.1, o2270.2.2, mm_rf rv sp 3 w nw))) (b := ((82, [some (.ref 16), none, none, none, some (.int y4)], []), (107, o2270.2.1, o2270.2.2, mm_rf rv sp 3 w nw))) rfl (fun h2271 => ?_) (fun h2271 => ?_)
          · rw [if_pos h2271] at e
            refine mm_T.seg (f' := (81, [some (.ref 16), none, none, none, some (.int y4)], [(.int 0)])) (h' := (107, o2270.2.1, o2270.2.2, mm_rf rv sp 3 w nw)) 1 rfl ?_
            cases e
            exact mm_T.ret rfl (kr _ _ _ rfl)
          · rw [if_neg h2271] at e
            refine mm_T.seg (f' := (58, [some (.ref 16), none, none, none, some (.int (y4 + 1))], [])) (h' := (107, o2270.2.1, o2270.2.2, mm_rf rv sp 3 w nw)) 2 rfl ?_
            refine mm_T.mask [true, false, false, false, true] ?_
            exact ih (y4 + 1) 3 o2270.2.1 o2270.2.2 rv sp 3 w nw (Or.inl rfl) (Or.inl rfl) out e kr ke
      · rw [if_neg h2268] at e
        cases e
        refine mm_T.mask [false, false, false, false, false] ?_
        exact ke _ _ _ rfl
    · rw [fX4_read_2_L58] at e
      refine mm_T.seg (f' := (63, [some (.ref 16), none, none, none, some (.int y4)], [(.int 1600), (.int y4)])) (h' := (107, I, J, mm_rf rv sp 19 w nw)) 2 rfl ?_
      refine mm_T.br (c := y4 < 1600) (a := ((66, [some (.ref 16), none, none, none, some (.int y4)], []), (107, I, J, mm_rf rv sp 19 w nw))) (b := ((88, [some (.ref 16), none, none, none, some (.int y4)], []), (107, I, J, mm_rf rv sp 19 w nw))) rfl (fun h2268 => ?_) (fun h2268 => ?_)
      · rw [if_pos h2268] at e
        refine mm_T.seg (f' := (70, [some (.ref 16), none, none, none, some (.int y4)], [(.int (I 16 5))])) (h' := (107, I, J, mm_rf rv sp 19 w nw)) 2 rfl ?_
        refine mm_T.br (c := (I 16 5) = 0) (a := ((88, [some (.ref 16), none, none, none, some (.int y4)], []), (107, I, J, mm_rf rv sp 19 w nw))) (b := ((73, [some (.ref 16), none, none, none, some (.int y4)], []), (107, I, J, mm_rf rv sp 19 w nw))) rfl (fun h2269 => ?_) (fun h2269 => ?_)
        · rw [if_pos h2269] at e
          cases e
          refine mm_T.mask [false, false, false, false, false] ?_
          exact ke _ _ _ rfl
        · rw [if_neg h2269] at e
          refine mm_T.seg (f' := (74, [some (.ref 16), none, none, none, some (.int y4)], [(.ref 16)])) (h' := (107, I, J, mm_rf rv sp 19 w nw)) 1 rfl ?_
          obtain ⟨o2270, eo2270, e⟩ := mm_bind e
          refine mm_T.call (t := 44) (as := [(.ref 16)]) (f' := (77, [some (.ref 16), none, none, none, some (.int y4)], [])) rfl (tX4_readLine (d + 0) n I J rv sp 19 w nw (Or.inr rfl) o2270 eo2270) (fun v h hq => ?_)
          obtain ⟨rfl, rfl⟩ := hq
          refine mm_T.br (c := o2270.1 = 0) (a := ((80, [some (.ref 16), none, none, none, some (.int y4)], []), (107, o2270.2.1, o2270.2.2, mm_rf rv sp 19 w nw))) (b := ((82, [some (.ref 16), none, none, none, some (.int y4)], []), (107, o2270.2.1, o2270.2.2, mm_rf rv sp 19 w nw))) rfl (fun h2271 => ?_) (fun h2271 => ?_)
          · rw [if_pos h2271] at e
            refine mm_T.seg (f' := (81, [some (.ref 16), none, none, none, some (.int y4)], [(.int 0)])) (h' := (107, o2270.2.1, o2270.2.2, mm_rf rv sp 19 w nw)) 1 rfl ?_
            cases e
            exact mm_T.ret rfl (kr _ _ _ rfl)
          · rw [if_neg h2271] at e
            refine mm_T.seg (f' := (58, [some (.ref 16), none, none, none, some (.int (y4 + 1))], [])) (h' := (107, o2270.2.1, o2270.2.2, mm_rf rv sp 19 w nw)) 2 rfl ?_
            refine mm_T.mask [true, false, false, false, true] ?_
            exact ih (y4 + 1) 3 o2270.2.1 o2270.2.2 rv sp 19 w nw (Or.inl rfl) (Or.inr rfl) out e kr ke
      · rw [if_neg h2268] at e
        cases e
        refine mm_T.mask [false, false, false, false, false] ?_
        exact ke _ _ _ rfl
    · rw [fX4_read_2_L58] at e
      refine mm_T.seg (f' := (63, [some (.ref 16), none, none, none, some (.int y4)], [(.int 1600), (.int y4)])) (h' := (107, I, J, mm_rf rv sp 3 w nw)) 2 rfl ?_
      refine mm_T.br (c := y4 < 1600) (a := ((66, [some (.ref 16), none, none, none, some (.int y4)], []), (107, I, J, mm_rf rv sp 3 w nw))) (b := ((88, [some (.ref 16), none, none, none, some (.int y4)], []), (107, I, J, mm_rf rv sp 3 w nw))) rfl (fun h2268 => ?_) (fun h2268 => ?_)
      · rw [if_pos h2268] at e
        refine mm_T.seg (f' := (70, [some (.ref 16), none, none, none, some (.int y4)], [(.int (I 16 5))])) (h' := (107, I, J, mm_rf rv sp 3 w nw)) 2 rfl ?_
        refine mm_T.br (c := (I 16 5) = 0) (a := ((88, [some (.ref 16), none, none, none, some (.int y4)], []), (107, I, J, mm_rf rv sp 3 w nw))) (b := ((73, [some (.ref 16), none, none, none, some (.int y4)], []), (107, I, J, mm_rf rv sp 3 w nw))) rfl (fun h2269 => ?_) (fun h2269 => ?_)
        · rw [if_pos h2269] at e
          cases e
          refine mm_T.mask [false, false, false, false, false] ?_
          exact ke _ _ _ rfl
        · rw [if_neg h2269] at e
          refine mm_T.seg (f' := (74, [some (.ref 16), none, none, none, some (.int y4)], [(.ref 16)])) (h' := (107, I, J, mm_rf rv sp 3 w nw)) 1 rfl ?_
          obtain ⟨o2270, eo2270, e⟩ := mm_bind e
          refine mm_T.call (t := 44) (as := [(.ref 16)]) (f' := (77, [some (.ref 16), none, none, none, some (.int y4)], [])) rfl (tX4_readLine (d + 0) n I J rv sp 3 w nw (Or.inl rfl) o2270 eo2270) (fun v h hq => ?_)
          obtain ⟨rfl, rfl⟩ := hq
          refine mm_T.br (c := o2270.1 = 0) (a := ((80, [some (.ref 16), none, none, none, some (.int y4)], []), (107, o2270.2.1, o2270.2.2, mm_rf rv sp 3 w nw))) (b := ((82, [some (.ref 16), none, none, none, some (.int y4)], []), (107, o2270.2.1, o2270.2.2, mm_rf rv sp 3 w nw))) rfl (fun h2271 => ?_) (fun h2271 => ?_)
          · rw [if_pos h2271] at e
            refine mm_T.seg (f' := (81, [some (.ref 16), none, none, none, some (.int y4)], [(.int 0)])) (h' := (107, o2270.2.1, o2270.2.2, mm_rf rv sp 3 w nw)) 1 rfl ?_
            cases e
            exact mm_T.ret rfl (kr _ _ _ rfl)
          · rw [if_neg h2271] at e
            refine mm_T.seg (f' := (58, [some (.ref 16), none, none, none, some (.int (y4 + 1))], [])) (h' := (107, o2270.2.1, o2270.2.2, mm_rf rv sp 3 w nw)) 2 rfl ?_
            refine mm_T.mask [true, false, false, false, true] ?_
            exact ih (y4 + 1) 19 o2270.2.1 o2270.2.2 rv sp 3 w nw (Or.inr rfl) (Or.inl rfl) out e kr ke
      · rw [if_neg h2268] at e
        cases e
        refine mm_T.mask [false, false, false, false, false] ?_
        exact ke _ _ _ rfl
    · rw [fX4_read_2_L58] at e
      refine mm_T.seg (f' := (63, [some (.ref 16), none, none, none, some (.int y4)], [(.int 1600), (.int y4)])) (h' := (107, I, J, mm_rf rv sp 19 w nw)) 2 rfl ?_
      refine mm_T.br (c := y4 < 1600) (a := ((66, [some (.ref 16), none, none, none, some (.int y4)], []), (107, I, J, mm_rf rv sp 19 w nw))) (b := ((88, [some (.ref 16), none, none, none, some (.int y4)], []), (107, I, J, mm_rf rv sp 19 w nw))) rfl (fun h2268 => ?_) (fun h2268 => ?_)
      · rw [if_pos h2268] at e
        refine mm_T.seg (f' := (70, [some (.ref 16), none, none, none, some (.int y4)], [(.int (I 16 5))])) (h' := (107, I, J, mm_rf rv sp 19 w nw)) 2 rfl ?_
        refine mm_T.br (c := (I 16 5) = 0) (a := ((88, [some (.ref 16), none, none, none, some (.int y4)], []), (107, I, J, mm_rf rv sp 19 w nw))) (b := ((73, [some (.ref 16), none, none, none, some (.int y4)], []), (107, I, J, mm_rf rv sp 19 w nw))) rfl (fun h2269 => ?_) (fun h2269 => ?_)
        · rw [if_pos h2269] at e
          cases e
          refine mm_T.mask [false, false, false, false, false] ?_
          exact ke _ _ _ rfl
        · rw [if_neg h2269] at e
          refine mm_T.seg (f' := (74, [some (.ref 16), none, none, none, some (.int y4)], [(.ref 16)])) (h' := (107, I, J, mm_rf rv sp 19 w nw)) 1 rfl ?_
          obtain ⟨o2270, eo2270, e⟩ := mm_bind e
          refine mm_T.call (t := 44) (as := [(.ref 16)]) (f' := (77, [some (.ref 16), none, none, none, some (.int y4)], [])) rfl (tX4_readLine (d + 0) n I J rv sp 19 w nw (Or.inr rfl) o2270 eo2270) (fun v h hq => ?_)
          obtain ⟨rfl, rfl⟩ := hq
          refine mm_T.br (c := o2270.1 = 0) (a := ((80, [some (.ref 16), none, none, none, some (.int y4)], []), (107, o2270.2.1, o2270.2.2, mm_rf rv sp 19 w nw))) (b := ((82, [some (.ref 16), none, none, none, some (.int y4)], []), (107, o2270.2.1, o2270.2.2, mm_rf rv sp 19 w nw))) rfl (fun h2271 => ?_) (fun h2271 => ?_)
          · rw [if_pos h2271] at e
            refine mm_T.seg (f' := (81, [some (.ref 16), none, none, none, some (.int y4)], [(.int 0)])) (h' := (107, o2270.2.1, o2270.2.2, mm_rf rv sp 19 w nw)) 1 rfl ?_
            cases e
            exact mm_T.ret rfl (kr _ _ _ rfl)
          · rw [if_neg h2271] at e
            refine mm_T.seg (f' := (58, [some (.ref 16), none, none, none, some (.int (y4 + 1))], [])) (h' := (107, o2270.2.1, o2270.2.2, mm_rf rv sp 19 w nw)) 2 rfl ?_
            refine mm_T.mask [true, false, false, false, true] ?_
            exact ih (y4 + 1) 19 o2270.2.1 o2270.2.2 rv sp 19 w nw (Or.inr rfl) (Or.inr rfl) out e kr ke
      · rw [if_neg h2268] at e
        cases e
        refine mm_T.mask [false, false, false, false, false] ?_
        exact ke _ _ _ rfl
set_option maxRecDepth 100000 in
set_option maxHeartbeats 4000000 in
theorem tX4_read_2 (d n : Nat) (x2 : Int32) (p3 : Nat) (I : Nat → Nat → Int32) (J : Nat → Nat → Int64) (rv sp rr w nw : Nat) (hp3 : p3 = 3 ∨ p3 = 19) (hrr : rr = 3 ∨ rr = 19) (out : Int32 × (Nat → Nat → Int32) × (Nat → Nat → Int64)) (e : fX4_read_2 n x2 p3 I J rr = some out) : mm_T none (d + 107) 29 (mm_ent 29 [(.ref 16), (.ref 2), (.int x2), (.ref p3)]) (107, I, J, mm_rf rv sp rr w nw) (fun v h => v = some (.int out.1) ∧ h = (107, out.2.1, out.2.2, mm_rf rv sp p3 w nw)) := by
  rcases hp3, hrr with ⟨rfl | rfl, rfl | rfl⟩
  · unfold fX4_read_2 at e
    refine mm_T.seg (f' := (2, [some (.ref 16), some (.ref 2), some (.int x2), some (.ref 3), none], [(.ref 2), (.ref 16)])) (h' := (107, I, J, mm_rf rv sp 3 w nw)) 2 rfl ?_
    refine mm_T.step (f' := (5, [some (.ref 16), some (.ref 2), some (.int x2), some (.ref 3), none], [])) (h' := (107, I, J, mm_up (mm_rf rv sp 3 w nw) 16 1 2)) rfl ?_
    rw [mm_rf_keep 16 1 2 rfl]
    refine mm_T.seg (f' := (10, [some (.ref 16), some (.ref 2), some (.int x2), some (.ref 3), none], [(.int 1600), (.int x2), (.int 0), (.ref 16)])) (h' := (107, I, J, mm_rf rv sp 3 w nw)) 5 rfl ?_
    obtain ⟨g409, hg409⟩ : ∃ z, fJ9_min x2 1600 = z := ⟨_, rfl⟩
    try rw [hg409] at e
    refine mm_T.call (t := 348) (as := [(.int x2), (.int 1600)]) (f' := (13, [some (.ref 16), some (.ref 2), some (.int x2), some (.ref 3), none], [(.int 0), (.ref 16)])) rfl (tJ9_min (d + 106) x2 1600 I J rv sp 3 w nw g409 hg409) (fun v h hq => ?_)
    obtain ⟨rfl, rfl⟩ := hq
    obtain ⟨g410, hg410⟩ : ∃ z, fJ9_max 0 g409 = z := ⟨_, rfl⟩
    try rw [hg410] at e
    refine mm_T.call (t := 347) (as := [(.int 0), (.int g409)]) (f' := (16, [some (.ref 16), some (.ref 2), some (.int x2), some (.ref 3), none], [(.ref 16)])) rfl (tJ9_max (d + 106) 0 g409 I J rv sp 3 w nw g410 hg410) (fun v h hq => ?_)
    obtain ⟨rfl, rfl⟩ := hq
    refine mm_T.seg (f' := (21, [some (.ref 16), some (.ref 2), some (.int x2), some (.ref 3), none], [(.ref 3), (.ref 16)])) (h' := (107, (mm_up I 16 2 g410), J, mm_rf rv sp 3 w nw)) 3 rfl ?_
    refine mm_T.step (f' := (24, [some (.ref 16), some (.ref 2), some (.int x2), some (.ref 3), none], [])) (h' := (107, (mm_up I 16 2 g410), J, mm_up (mm_rf rv sp 3 w nw) 16 10 3)) rfl ?_
    rw [mm_rf_rr]
    refine mm_T.seg (f' := (28, [some (.ref 16), some (.ref 2), some (.int x2), some (.ref 3), none], [(.ref 3)])) (h' := (107, (mm_up I 16 2 g410), J, mm_rf rv sp 3 w nw)) 2 rfl ?_
    obtain ⟨g411, hg411⟩ : ∃ z, fX5_clear 3 (mm_up I 16 2 g410) = z := ⟨_, rfl⟩
    try rw [hg411] at e
    refine mm_T.call (t := 64) (as := [(.ref 3)]) (f' := (31, [some (.ref 16), some (.ref 2), some (.int x2), some (.ref 3), none], [])) rfl (tX5_clear (d + 105) 3 (mm_up I 16 2 g410) J rv sp 3 w nw (Or.inl rfl) g411 hg411) (fun v h hq => ?_)
    obtain ⟨rfl, rfl⟩ := hq
    refine mm_T.seg (f' := (52, [some (.ref 16), some (.ref 2), some (.int x2), some (.ref 3), none], [(.ref 16)])) (h' := (107, (mm_up (mm_up (mm_up (mm_up g411 16 9 0) 16 11 0) 16 12 (-1)) 16 4 0), J, mm_rf rv sp 3 w nw)) 13 rfl ?_
    obtain ⟨o2263, eo2263, e⟩ := mm_bind e
    refine mm_T.call (t := 34) (as := [(.ref 16)]) (f' := (55, [some (.ref 16), some (.ref 2), some (.int x2), some (.ref 3), none], [])) rfl (tX4_advance (d + 102) n (mm_up (mm_up (mm_up (mm_up g411 16 9 0) 16 11 0) 16 12 (-1)) 16 4 0) J rv sp 3 w nw o2263 eo2263) (fun v h hq => ?_)
    obtain ⟨rfl, rfl⟩ := hq
    refine mm_T.seg (f' := (58, [some (.ref 16), some (.ref 2), some (.int x2), some (.ref 3), some (.int 0)], [])) (h' := (107, o2263.1, o2263.2, mm_rf rv sp 3 w nw)) 2 rfl ?_
    refine mm_T.mask [true, false, false, false, true] ?_
    obtain ⟨o2272, eo2272, e⟩ := mm_bind e
    rcases o2272 with ⟨va2273 | vb2273, vs2273_0, vs2273_1⟩
    · cases e
      refine tlX4_read_2_L58 d _ n 0 3 o2263.1 o2263.2 rv sp 3 w nw (Or.inl rfl) (Or.inl rfl) _ eo2272 (fun z z0 z1 hz => ?_) (fun z z0 z1 hz => ?_)
      · cases hz; exact ⟨rfl, rfl⟩
      · cases hz
    · refine tlX4_read_2_L58 d _ n 0 3 o2263.1 o2263.2 rv sp 3 w nw (Or.inl rfl) (Or.inl rfl) (.inr vb2273, vs2273_0, vs2273_1) eo2272 (fun z z0 z1 hz => ?_) (fun z z0 z1 hz => ?_)
      · cases hz
      · cases hz
        refine mm_T.seg (f' := (89, [none, none, none, none, none], [(.int 1)])) (h' := (107, vs2273_0, vs2273_1, mm_rf rv sp 3 w nw)) 1 rfl ?_
        cases e
        exact mm_T.ret rfl ⟨rfl, rfl⟩
  · unfold fX4_read_2 at e
    refine mm_T.seg (f' := (2, [some (.ref 16), some (.ref 2), some (.int x2), some (.ref 3), none], [(.ref 2), (.ref 16)])) (h' := (107, I, J, mm_rf rv sp 19 w nw)) 2 rfl ?_
    refine mm_T.step (f' := (5, [some (.ref 16), some (.ref 2), some (.int x2), some (.ref 3), none], [])) (h' := (107, I, J, mm_up (mm_rf rv sp 19 w nw) 16 1 2)) rfl ?_
    rw [mm_rf_keep 16 1 2 rfl]
    refine mm_T.seg (f' := (10, [some (.ref 16), some (.ref 2), some (.int x2), some (.ref 3), none], [(.int 1600), (.int x2), (.int 0), (.ref 16)])) (h' := (107, I, J, mm_rf rv sp 19 w nw)) 5 rfl ?_
    obtain ⟨g409, hg409⟩ : ∃ z, fJ9_min x2 1600 = z := ⟨_, rfl⟩
    try rw [hg409] at e
    refine mm_T.call (t := 348) (as := [(.int x2), (.int 1600)]) (f' := (13, [some (.ref 16), some (.ref 2), some (.int x2), some (.ref 3), none], [(.int 0), (.ref 16)])) rfl (tJ9_min (d + 106) x2 1600 I J rv sp 19 w nw g409 hg409) (fun v h hq => ?_)
    obtain ⟨rfl, rfl⟩ := hq
    obtain ⟨g410, hg410⟩ : ∃ z, fJ9_max 0 g409 = z := ⟨_, rfl⟩
    try rw [hg410] at e
    refine mm_T.call (t := 347) (as := [(.int 0), (.int g409)]) (f' := (16, [some (.ref 16), some (.ref 2), some (.int x2), some (.ref 3), none], [(.ref 16)])) rfl (tJ9_max (d + 106) 0 g409 I J rv sp 19 w nw g410 hg410) (fun v h hq => ?_)
    obtain ⟨rfl, rfl⟩ := hq
    refine mm_T.seg (f' := (21, [some (.ref 16), some (.ref 2), some (.int x2), some (.ref 3), none], [(.ref 3), (.ref 16)])) (h' := (107, (mm_up I 16 2 g410), J, mm_rf rv sp 19 w nw)) 3 rfl ?_
    refine mm_T.step (f' := (24, [some (.ref 16), some (.ref 2), some (.int x2), some (.ref 3), none], [])) (h' := (107, (mm_up I 16 2 g410), J, mm_up (mm_rf rv sp 19 w nw) 16 10 3)) rfl ?_
    rw [mm_rf_rr]
    refine mm_T.seg (f' := (28, [some (.ref 16), some (.ref 2), some (.int x2), some (.ref 3), none], [(.ref 3)])) (h' := (107, (mm_up I 16 2 g410), J, mm_rf rv sp 3 w nw)) 2 rfl ?_
    obtain ⟨g411, hg411⟩ : ∃ z, fX5_clear 3 (mm_up I 16 2 g410) = z := ⟨_, rfl⟩
    try rw [hg411] at e
    refine mm_T.call (t := 64) (as := [(.ref 3)]) (f' := (31, [some (.ref 16), some (.ref 2), some (.int x2), some (.ref 3), none], [])) rfl (tX5_clear (d + 105) 3 (mm_up I 16 2 g410) J rv sp 3 w nw (Or.inl rfl) g411 hg411) (fun v h hq => ?_)
    obtain ⟨rfl, rfl⟩ := hq
    refine mm_T.seg (f' := (52, [some (.ref 16), some (.ref 2), some (.int x2), some (.ref 3), none], [(.ref 16)])) (h' := (107, (mm_up (mm_up (mm_up (mm_up g411 16 9 0) 16 11 0) 16 12 (-1)) 16 4 0), J, mm_rf rv sp 3 w nw)) 13 rfl ?_
    obtain ⟨o2263, eo2263, e⟩ := mm_bind e
    refine mm_T.call (t := 34) (as := [(.ref 16)]) (f' := (55, [some (.ref 16), some (.ref 2), some (.int x2), some (.ref 3), none], [])) rfl (tX4_advance (d + 102) n (mm_up (mm_up (mm_up (mm_up g411 16 9 0) 16 11 0) 16 12 (-1)) 16 4 0) J rv sp 3 w nw o2263 eo2263) (fun v h hq => ?_)
    obtain ⟨rfl, rfl⟩ := hq
    refine mm_T.seg (f' := (58, [some (.ref 16), some (.ref 2), some (.int x2), some (.ref 3), some (.int 0)], [])) (h' := (107, o2263.1, o2263.2, mm_rf rv sp 3 w nw)) 2 rfl ?_
    refine mm_T.mask [true, false, false, false, true] ?_
    obtain ⟨o2272, eo2272, e⟩ := mm_bind e
    rcases o2272 with ⟨va2273 | vb2273, vs2273_0, vs2273_1⟩
    · cases e
      refine tlX4_read_2_L58 d _ n 0 3 o2263.1 o2263.2 rv sp 3 w nw (Or.inl rfl) (Or.inl rfl) _ eo2272 (fun z z0 z1 hz => ?_) (fun z z0 z1 hz => ?_)
      · cases hz; exact ⟨rfl, rfl⟩
      · cases hz
    · refine tlX4_read_2_L58 d _ n 0 3 o2263.1 o2263.2 rv sp 3 w nw (Or.inl rfl) (Or.inl rfl) (.inr vb2273, vs2273_0, vs2273_1) eo2272 (fun z z0 z1 hz => ?_) (fun z z0 z1 hz => ?_)
      · cases hz
      · cases hz
        refine mm_T.seg (f' := (89, [none, none, none, none, none], [(.int 1)])) (h' := (107, vs2273_0, vs2273_1, mm_rf rv sp 3 w nw)) 1 rfl ?_
        cases e
        exact mm_T.ret rfl ⟨rfl, rfl⟩
  · unfold fX4_read_2 at e
    refine mm_T.seg (f' := (2, [some (.ref 16), some (.ref 2), some (.int x2), some (.ref 19), none], [(.ref 2), (.ref 16)])) (h' := (107, I, J, mm_rf rv sp 3 w nw)) 2 rfl ?_
    refine mm_T.step (f' := (5, [some (.ref 16), some (.ref 2), some (.int x2), some (.ref 19), none], [])) (h' := (107, I, J, mm_up (mm_rf rv sp 3 w nw) 16 1 2)) rfl ?_
    rw [mm_rf_keep 16 1 2 rfl]
    refine mm_T.seg (f' := (10, [some (.ref 16), some (.ref 2), some (.int x2), some (.ref 19), none], [(.int 1600), (.int x2), (.int 0), (.ref 16)])) (h' := (107, I, J, mm_rf rv sp 3 w nw)) 5 rfl ?_
    obtain ⟨g409, hg409⟩ : ∃ z, fJ9_min x2 1600 = z := ⟨_, rfl⟩
    try rw [hg409] at e
    refine mm_T.call (t := 348) (as := [(.int x2), (.int 1600)]) (f' := (13, [some (.ref 16), some (.ref 2), some (.int x2), some (.ref 19), none], [(.int 0), (.ref 16)])) rfl (tJ9_min (d + 106) x2 1600 I J rv sp 3 w nw g409 hg409) (fun v h hq => ?_)
    obtain ⟨rfl, rfl⟩ := hq
    obtain ⟨g410, hg410⟩ : ∃ z, fJ9_max 0 g409 = z := ⟨_, rfl⟩
    try rw [hg410] at e
    refine mm_T.call (t := 347) (as := [(.int 0), (.int g409)]) (f' := (16, [some (.ref 16), some (.ref 2), some (.int x2), some (.ref 19), none], [(.ref 16)])) rfl (tJ9_max (d + 106) 0 g409 I J rv sp 3 w nw g410 hg410) (fun v h hq => ?_)
    obtain ⟨rfl, rfl⟩ := hq
    refine mm_T.seg (f' := (21, [some (.ref 16), some (.ref 2), some (.int x2), some (.ref 19), none], [(.ref 19), (.ref 16)])) (h' := (107, (mm_up I 16 2 g410), J, mm_rf rv sp 3 w nw)) 3 rfl ?_
    refine mm_T.step (f' := (24, [some (.ref 16), some (.ref 2), some (.int x2), some (.ref 19), none], [])) (h' := (107, (mm_up I 16 2 g410), J, mm_up (mm_rf rv sp 3 w nw) 16 10 19)) rfl ?_
    rw [mm_rf_rr]
    refine mm_T.seg (f' := (28, [some (.ref 16), some (.ref 2), some (.int x2), some (.ref 19), none], [(.ref 19)])) (h' := (107, (mm_up I 16 2 g410), J, mm_rf rv sp 19 w nw)) 2 rfl ?_
    obtain ⟨g411, hg411⟩ : ∃ z, fX5_clear 19 (mm_up I 16 2 g410) = z := ⟨_, rfl⟩
    try rw [hg411] at e
    refine mm_T.call (t := 64) (as := [(.ref 19)]) (f' := (31, [some (.ref 16), some (.ref 2), some (.int x2), some (.ref 19), none], [])) rfl (tX5_clear (d + 105) 19 (mm_up I 16 2 g410) J rv sp 19 w nw (Or.inr rfl) g411 hg411) (fun v h hq => ?_)
    obtain ⟨rfl, rfl⟩ := hq
    refine mm_T.seg (f' := (52, [some (.ref 16), some (.ref 2), some (.int x2), some (.ref 19), none], [(.ref 16)])) (h' := (107, (mm_up (mm_up (mm_up (mm_up g411 16 9 0) 16 11 0) 16 12 (-1)) 16 4 0), J, mm_rf rv sp 19 w nw)) 13 rfl ?_
    obtain ⟨o2263, eo2263, e⟩ := mm_bind e
    refine mm_T.call (t := 34) (as := [(.ref 16)]) (f' := (55, [some (.ref 16), some (.ref 2), some (.int x2), some (.ref 19), none], [])) rfl (tX4_advance (d + 102) n (mm_up (mm_up (mm_up (mm_up g411 16 9 0) 16 11 0) 16 12 (-1)) 16 4 0) J rv sp 19 w nw o2263 eo2263) (fun v h hq => ?_)
    obtain ⟨rfl, rfl⟩ := hq
    refine mm_T.seg (f' := (58, [some (.ref 16), some (.ref 2), some (.int x2), some (.ref 19), some (.int 0)], [])) (h' := (107, o2263.1, o2263.2, mm_rf rv sp 19 w nw)) 2 rfl ?_
    refine mm_T.mask [true, false, false, false, true] ?_
    obtain ⟨o2272, eo2272, e⟩ := mm_bind e
    rcases o2272 with ⟨va2273 | vb2273, vs2273_0, vs2273_1⟩
    · cases e
      refine tlX4_read_2_L58 d _ n 0 19 o2263.1 o2263.2 rv sp 19 w nw (Or.inr rfl) (Or.inr rfl) _ eo2272 (fun z z0 z1 hz => ?_) (fun z z0 z1 hz => ?_)
      · cases hz; exact ⟨rfl, rfl⟩
      · cases hz
    · refine tlX4_read_2_L58 d _ n 0 19 o2263.1 o2263.2 rv sp 19 w nw (Or.inr rfl) (Or.inr rfl) (.inr vb2273, vs2273_0, vs2273_1) eo2272 (fun z z0 z1 hz => ?_) (fun z z0 z1 hz => ?_)
      · cases hz
      · cases hz
        refine mm_T.seg (f' := (89, [none, none, none, none, none], [(.int 1)])) (h' := (107, vs2273_0, vs2273_1, mm_rf rv sp 19 w nw)) 1 rfl ?_
        cases e
        exact mm_T.ret rfl ⟨rfl, rfl⟩
  · unfold fX4_read_2 at e
    refine mm_T.seg (f' := (2, [some (.ref 16), some (.ref 2), some (.int x2), some (.ref 19), none], [(.ref 2), (.ref 16)])) (h' := (107, I, J, mm_rf rv sp 19 w nw)) 2 rfl ?_
    refine mm_T.step (f' := (5, [some (.ref 16), some (.ref 2), some (.int x2), some (.ref 19), none], [])) (h' := (107, I, J, mm_up (mm_rf rv sp 19 w nw) 16 1 2)) rfl ?_
    rw [mm_rf_keep 16 1 2 rfl]
    refine mm_T.seg (f' := (10, [some (.ref 16), some (.ref 2), some (.int x2), some (.ref 19), none], [(.int 1600), (.int x2), (.int 0), (.ref 16)])) (h' := (107, I, J, mm_rf rv sp 19 w nw)) 5 rfl ?_
    obtain ⟨g409, hg409⟩ : ∃ z, fJ9_min x2 1600 = z := ⟨_, rfl⟩
    try rw [hg409] at e
    refine mm_T.call (t := 348) (as := [(.int x2), (.int 1600)]) (f' := (13, [some (.ref 16), some (.ref 2), some (.int x2), some (.ref 19), none], [(.int 0), (.ref 16)])) rfl (tJ9_min (d + 106) x2 1600 I J rv sp 19 w nw g409 hg409) (fun v h hq => ?_)
    obtain ⟨rfl, rfl⟩ := hq
    obtain ⟨g410, hg410⟩ : ∃ z, fJ9_max 0 g409 = z := ⟨_, rfl⟩
    try rw [hg410] at e
    refine mm_T.call (t := 347) (as := [(.int 0), (.int g409)]) (f' := (16, [some (.ref 16), some (.ref 2), some (.int x2), some (.ref 19), none], [(.ref 16)])) rfl (tJ9_max (d + 106) 0 g409 I J rv sp 19 w nw g410 hg410) (fun v h hq => ?_)
    obtain ⟨rfl, rfl⟩ := hq
    refine mm_T.seg (f' := (21, [some (.ref 16), some (.ref 2), some (.int x2), some (.ref 19), none], [(.ref 19), (.ref 16)])) (h' := (107, (mm_up I 16 2 g410), J, mm_rf rv sp 19 w nw)) 3 rfl ?_
    refine mm_T.step (f' := (24, [some (.ref 16), some (.ref 2), some (.int x2), some (.ref 19), none], [])) (h' := (107, (mm_up I 16 2 g410), J, mm_up (mm_rf rv sp 19 w nw) 16 10 19)) rfl ?_
    rw [mm_rf_rr]
    refine mm_T.seg (f' := (28, [some (.ref 16), some (.ref 2), some (.int x2), some (.ref 19), none], [(.ref 19)])) (h' := (107, (mm_up I 16 2 g410), J, mm_rf rv sp 19 w nw)) 2 rfl ?_
    obtain ⟨g411, hg411⟩ : ∃ z, fX5_clear 19 (mm_up I 16 2 g410) = z := ⟨_, rfl⟩
    try rw [hg411] at e
    refine mm_T.call (t := 64) (as := [(.ref 19)]) (f' := (31, [some (.ref 16), some (.ref 2), some (.int x2), some (.ref 19), none], [])) rfl (tX5_clear (d + 105) 19 (mm_up I 16 2 g410) J rv sp 19 w nw (Or.inr rfl) g411 hg411) (fun v h hq => ?_)
    obtain ⟨rfl, rfl⟩ := hq
    refine mm_T.seg (f' := (52, [some (.ref 16), some (.ref 2), some (.int x2), some (.ref 19), none], [(.ref 16)])) (h' := (107, (mm_up (mm_up (mm_up (mm_up g411 16 9 0) 16 11 0) 16 12 (-1)) 16 4 0), J, mm_rf rv sp 19 w nw)) 13 rfl ?_
    obtain ⟨o2263, eo2263, e⟩ := mm_bind e
    refine mm_T.call (t := 34) (as := [(.ref 16)]) (f' := (55, [some (.ref 16), some (.ref 2), some (.int x2), some (.ref 19), none], [])) rfl (tX4_advance (d + 102) n (mm_up (mm_up (mm_up (mm_up g411 16 9 0) 16 11 0) 16 12 (-1)) 16 4 0) J rv sp 19 w nw o2263 eo2263) (fun v h hq => ?_)
    obtain ⟨rfl, rfl⟩ := hq
    refine mm_T.seg (f' := (58, [some (.ref 16), some (.ref 2), some (.int x2), some (.ref 19), some (.int 0)], [])) (h' := (107, o2263.1, o2263.2, mm_rf rv sp 19 w nw)) 2 rfl ?_
    refine mm_T.mask [true, false, false, false, true] ?_
    obtain ⟨o2272, eo2272, e⟩ := mm_bind e
    rcases o2272 with ⟨va2273 | vb2273, vs2273_0, vs2273_1⟩
    · cases e
      refine tlX4_read_2_L58 d _ n 0 19 o2263.1 o2263.2 rv sp 19 w nw (Or.inr rfl) (Or.inr rfl) _ eo2272 (fun z z0 z1 hz => ?_) (fun z z0 z1 hz => ?_)
      · cases hz; exact ⟨rfl, rfl⟩
      · cases hz
    · refine tlX4_read_2_L58 d _ n 0 19 o2263.1 o2263.2 rv sp 19 w nw (Or.inr rfl) (Or.inr rfl) (.inr vb2273, vs2273_0, vs2273_1) eo2272 (fun z z0 z1 hz => ?_) (fun z z0 z1 hz => ?_)
      · cases hz
      · cases hz
        refine mm_T.seg (f' := (89, [none, none, none, none, none], [(.int 1)])) (h' := (107, vs2273_0, vs2273_1, mm_rf rv sp 19 w nw)) 1 rfl ?_
        cases e
        exact mm_T.ret rfl ⟨rfl, rfl⟩
