set_option maxRecDepth 100000 in
set_option maxHeartbeats 4000000 in
theorem tX8_findCoolest (d n : Nat) (x1 : Int32) (I : Nat → Nat → Int32) (J : Nat → Nat → Int64) (rv sp rr w nw : Nat) (hrv : rv = 3 ∨ rv = 19) (out : Int32 × (Nat → Nat → Int32)) (e : fX8_findCoolest n x1 I rv = some out) : mm_T none (d + 33) 126 (mm_ent 126 [(.ref 42), (.int x1)]) (107, I, J, mm_rf rv sp rr w nw) (fun v h => v = some (.int out.1) ∧ h = (107, out.2, J, mm_rf rv sp rr w nw)) := by
  rcases hrv with rfl | rfl
  · unfold fX8_findCoolest at e
    refine mm_T.seg (f' := (10, [some (.ref 42), some (.int x1)], [(.ref 18), (.ref 42)])) (h' := (107, (mm_up I 42 2 x1), J, mm_rf 3 sp rr w nw)) 6 rfl ?_
    refine mm_T.seg (f' := (11, [some (.ref 42), some (.int x1)], [(.int x1), (.ref 18), (.ref 42)])) (h' := (107, (mm_up I 42 2 x1), J, mm_rf 3 sp rr w nw)) 1 rfl ?_
    obtain ⟨o2058, eo2058, e⟩ := mm_bind e
    refine mm_T.call (t := 118) (as := [(.ref 18), (.int x1)]) (f' := (14, [some (.ref 42), some (.int x1)], [(.ref 42)])) rfl (tX7_burdenOf (d + 30) n x1 (mm_up I 42 2 x1) J 3 sp rr w nw (Or.inl rfl) o2058 eo2058) (fun v h hq => ?_)
    obtain ⟨rfl, rfl⟩ := hq
    refine mm_T.seg (f' := (28, [some (.ref 42), some (.int x1)], [(.ref 18), (.int 0), (.ref 42)])) (h' := (107, (mm_up (mm_up (mm_up I 42 2 x1) 42 3 o2058) 42 4 0), J, mm_rf 3 sp rr w nw)) 8 rfl ?_
    refine mm_T.seg (f' := (29, [some (.ref 42), some (.int x1)], [(.int x1), (.ref 18), (.int 0), (.ref 42)])) (h' := (107, (mm_up (mm_up (mm_up I 42 2 x1) 42 3 o2058) 42 4 0), J, mm_rf 3 sp rr w nw)) 1 rfl ?_
    obtain ⟨g327, hg327⟩ : ∃ z, fX7_columnOf x1 (mm_up (mm_up (mm_up I 42 2 x1) 42 3 o2058) 42 4 0) = z := ⟨_, rfl⟩
    try rw [hg327] at e
    refine mm_T.call (t := 105) (as := [(.ref 18), (.int x1)]) (f' := (32, [some (.ref 42), some (.int x1)], [(.int 0), (.ref 42)])) rfl (tX7_columnOf (d + 30) x1 (mm_up (mm_up (mm_up I 42 2 x1) 42 3 o2058) 42 4 0) J 3 sp rr w nw g327 hg327) (fun v h hq => ?_)
    obtain ⟨rfl, rfl⟩ := hq
    refine mm_T.seg (f' := (36, [some (.ref 42), some (.int x1)], [(.ref 18), (.int g327), (.int 0), (.ref 42)])) (h' := (107, (mm_up (mm_up (mm_up I 42 2 x1) 42 3 o2058) 42 4 0), J, mm_rf 3 sp rr w nw)) 2 rfl ?_
    refine mm_T.seg (f' := (37, [some (.ref 42), some (.int x1)], [(.int x1), (.ref 18), (.int g327), (.int 0), (.ref 42)])) (h' := (107, (mm_up (mm_up (mm_up I 42 2 x1) 42 3 o2058) 42 4 0), J, mm_rf 3 sp rr w nw)) 1 rfl ?_
    obtain ⟨g328, hg328⟩ : ∃ z, fX7_heatOf x1 (mm_up (mm_up (mm_up I 42 2 x1) 42 3 o2058) 42 4 0) = z := ⟨_, rfl⟩
    try rw [hg328] at e
    refine mm_T.call (t := 107) (as := [(.ref 18), (.int x1)]) (f' := (40, [some (.ref 42), some (.int x1)], [(.int g327), (.int 0), (.ref 42)])) rfl (tX7_heatOf (d + 30) x1 (mm_up (mm_up (mm_up I 42 2 x1) 42 3 o2058) 42 4 0) J 3 sp rr w nw g328 hg328) (fun v h hq => ?_)
    obtain ⟨rfl, rfl⟩ := hq
    refine mm_T.seg (f' := (41, [some (.ref 42), some (.int x1)], [(.int 0), (.int g328), (.int g327), (.int 0), (.ref 42)])) (h' := (107, (mm_up (mm_up (mm_up I 42 2 x1) 42 3 o2058) 42 4 0), J, mm_rf 3 sp rr w nw)) 1 rfl ?_
    obtain ⟨o2090, eo2090, e⟩ := mm_bind e
    refine mm_T.call (t := 127) (as := [(.ref 42), (.int 0), (.int g327), (.int g328), (.int 0)]) (f' := (44, [some (.ref 42), some (.int x1)], [])) rfl (mm_T.deep (tX8_goOn d n 8 0 g327 g328 0 (mm_up (mm_up (mm_up I 42 2 x1) 42 3 o2058) 42 4 0) J 3 sp rr w nw (Or.inl rfl) o2090 eo2090) (by omega)) (fun v h hq => ?_)
    obtain ⟨rfl, rfl⟩ := hq
    refine mm_T.seg (f' := (48, [some (.ref 42), some (.int x1)], [(.int (o2090 42 4))])) (h' := (107, o2090, J, mm_rf 3 sp rr w nw)) 2 rfl ?_
    by_cases h2091 : (o2090 42 4) = 0 ∨ (o2090 42 4) = 1
    case neg => rw [if_neg h2091] at e; cases e
    rw [if_pos h2091] at e
    cases e
    first | exact mm_T.retZ (v := some (.int (o2090 42 4))) rfl h2091 ⟨rfl, rfl⟩ | exact mm_T.retZ (v := some (.int out)) rfl h2091 ⟨rfl, rfl⟩
  · unfold fX8_findCoolest at e
    refine mm_T.seg (f' := (10, [some (.ref 42), some (.int x1)], [(.ref 18), (.ref 42)])) (h' := (107, (mm_up I 42 2 x1), J, mm_rf 19 sp rr w nw)) 6 rfl ?_
    refine mm_T.seg (f' := (11, [some (.ref 42), some (.int x1)], [(.int x1), (.ref 18), (.ref 42)])) (h' := (107, (mm_up I 42 2 x1), J, mm_rf 19 sp rr w nw)) 1 rfl ?_
    obtain ⟨o2058, eo2058, e⟩ := mm_bind e
    refine mm_T.call (t := 118) (as := [(.ref 18), (.int x1)]) (f' := (14, [some (.ref 42), some (.int x1)], [(.ref 42)])) rfl (tX7_burdenOf (d + 30) n x1 (mm_up I 42 2 x1) J 19 sp rr w nw (Or.inr rfl) o2058 eo2058) (fun v h hq => ?_)
    obtain ⟨rfl, rfl⟩ := hq
    refine mm_T.seg (f' := (28, [some (.ref 42), some (.int x1)], [(.ref 18), (.int 0), (.ref 42)])) (h' := (107, (mm_up (mm_up (mm_up I 42 2 x1) 42 3 o2058) 42 4 0), J, mm_rf 19 sp rr w nw)) 8 rfl ?_
    refine mm_T.seg (f' := (29, [some (.ref 42), some (.int x1)], [(.int x1), (.ref 18), (.int 0), (.ref 42)])) (h' := (107, (mm_up (mm_up (mm_up I 42 2 x1) 42 3 o2058) 42 4 0), J, mm_rf 19 sp rr w nw)) 1 rfl ?_
    obtain ⟨g327, hg327⟩ : ∃ z, fX7_columnOf x1 (mm_up (mm_up (mm_up I 42 2 x1) 42 3 o2058) 42 4 0) = z := ⟨_, rfl⟩
    try rw [hg327] at e
    refine mm_T.call (t := 105) (as := [(.ref 18), (.int x1)]) (f' := (32, [some (.ref 42), some (.int x1)], [(.int 0), (.ref 42)])) rfl (tX7_columnOf (d + 30) x1 (mm_up (mm_up (mm_up I 42 2 x1) 42 3 o2058) 42 4 0) J 19 sp rr w nw g327 hg327) (fun v h hq => ?_)
    obtain ⟨rfl, rfl⟩ := hq
    refine mm_T.seg (f' := (36, [some (.ref 42), some (.int x1)], [(.ref 18), (.int g327), (.int 0), (.ref 42)])) (h' := (107, (mm_up (mm_up (mm_up I 42 2 x1) 42 3 o2058) 42 4 0), J, mm_rf 19 sp rr w nw)) 2 rfl ?_
    refine mm_T.seg (f' := (37, [some (.ref 42), some (.int x1)], [(.int x1), (.ref 18), (.int g327), (.int 0), (.ref 42)])) (h' := (107, (mm_up (mm_up (mm_up I 42 2 x1) 42 3 o2058) 42 4 0), J, mm_rf 19 sp rr w nw)) 1 rfl ?_
    obtain ⟨g328, hg328⟩ : ∃ z, fX7_heatOf x1 (mm_up (mm_up (mm_up I 42 2 x1) 42 3 o2058) 42 4 0) = z := ⟨_, rfl⟩
    try rw [hg328] at e
    refine mm_T.call (t := 107) (as := [(.ref 18), (.int x1)]) (f' := (40, [some (.ref 42), some (.int x1)], [(.int g327), (.int 0), (.ref 42)])) rfl (tX7_heatOf (d + 30) x1 (mm_up (mm_up (mm_up I 42 2 x1) 42 3 o2058) 42 4 0) J 19 sp rr w nw g328 hg328) (fun v h hq => ?_)
    obtain ⟨rfl, rfl⟩ := hq
    refine mm_T.seg (f' := (41, [some (.ref 42), some (.int x1)], [(.int 0), (.int g328), (.int g327), (.int 0), (.ref 42)])) (h' := (107, (mm_up (mm_up (mm_up I 42 2 x1) 42 3 o2058) 42 4 0), J, mm_rf 19 sp rr w nw)) 1 rfl ?_
    obtain ⟨o2090, eo2090, e⟩ := mm_bind e
    refine mm_T.call (t := 127) (as := [(.ref 42), (.int 0), (.int g327), (.int g328), (.int 0)]) (f' := (44, [some (.ref 42), some (.int x1)], [])) rfl (mm_T.deep (tX8_goOn d n 8 0 g327 g328 0 (mm_up (mm_up (mm_up I 42 2 x1) 42 3 o2058) 42 4 0) J 19 sp rr w nw (Or.inr rfl) o2090 eo2090) (by omega)) (fun v h hq => ?_)
    obtain ⟨rfl, rfl⟩ := hq
    refine mm_T.seg (f' := (48, [some (.ref 42), some (.int x1)], [(.int (o2090 42 4))])) (h' := (107, o2090, J, mm_rf 19 sp rr w nw)) 2 rfl ?_
    by_cases h2091 : (o2090 42 4) = 0 ∨ (o2090 42 4) = 1
    case neg => rw [if_neg h2091] at e; cases e
    rw [if_pos h2091] at e
    cases e
    first | exact mm_T.retZ (v := some (.int (o2090 42 4))) rfl h2091 ⟨rfl, rfl⟩ | exact mm_T.retZ (v := some (.int out)) rfl h2091 ⟨rfl, rfl⟩
set_option maxRecDepth 100000 in
set_option maxHeartbeats 4000000 in
theorem tlX8_strokesToScorch_L50 (d : Nat) (Q : Option Value → mm_H → Prop) : ∀ (n : Nat) (y1 : Int32) (y3 : Int32) (y4 : Int32) (y5 : Int32) (y6 : Int32) (y7 : Int32) (I : Nat → Nat → Int32) (J : Nat → Nat → Int64) (rv sp rr w nw : Nat), (rv = 3 ∨ rv = 19) → ∀ (out : (Int32 ⊕ (Unit)) × (Nat → Nat → Int32)), fX8_strokesToScorch_L50 n y1 y3 y4 y5 y6 y7 I rv = some out → (∀ (r : Int32) (s0 : Nat → Nat → Int32), out = (.inl r, s0) → Q (some (.int r)) (107, s0, J, mm_rf rv sp rr w nw)) → (∀ (y : Unit) (s0 : Nat → Nat → Int32), out = (.inr y, s0) → mm_T none (d + 3) 129 (160, [none, none, none, none, none, none, none, none, none], []) (107, s0, J, mm_rf rv sp rr w nw) Q) → mm_T none (d + 3) 129 (50, [some (.ref 42), some (.int y1), some (.ref rv), some (.int y3), some (.int y4), some (.int y5), some (.int y6), some (.int y7), none], []) (107, I, J, mm_rf rv sp rr w nw) Q := by
  intro n
  induction n with
  | zero =>
    intro y1 y3 y4 y5 y6 y7 I J rv sp rr w nw hrv out e kr ke
    rw [fX8_strokesToScorch_L50] at e; cases e
  | succ n ih =>
    intro y1 y3 y4 y5 y6 y7 I J rv sp rr w nw hrv out e kr ke
    rcases hrv with rfl | rfl
    · rw [fX8_strokesToScorch_L50] at e
      refine mm_T.seg (f' := (59, [some (.ref 42), some (.int y1), some (.ref 3), some (.int y3), some (.int y4), some (.int y5), some (.int y6), some (.int y7), none], [(.int (I 3 1)), (.int (y5 + y7))])) (h' := (107, I, J, mm_rf 3 sp rr w nw)) 5 rfl ?_
      refine mm_T.br (c := (y5 + y7) < (I 3 1)) (a := ((62, [some (.ref 42), some (.int y1), some (.ref 3), some (.int y3), some (.int y4), some (.int y5), some (.int y6), some (.int y7), none], []), (107, I, J, mm_rf 3 sp rr w nw))) (b := ((160, [some (.ref 42), some (.int y1), some (.ref 3), some (.int y3), some (.int y4), some (.int y5), some (.int y6), some (.int y7), none], []), (107, I, J, mm_rf 3 sp rr w nw))) rfl (fun h2093 => ?_) (fun h2093 => ?_)
      · rw [if_pos h2093] at e
        refine mm_T.seg (f' := (72, [some (.ref 42), some (.int y1), some (.ref 3), some (.int y3), some (.int y4), some (.int y5), some (.int y6), some (.int y7), none], [(.int 1), (.int 0), (.int (y5 + y7)), (.int y4), (.ref 3)])) (h' := (107, I, J, mm_rf 3 sp rr w nw)) 7 rfl ?_
        obtain ⟨g344, hg344⟩ : ∃ z, fX5_leadsTo y4 (y5 + y7) 0 1 3 I = z := ⟨_, rfl⟩
        try rw [hg344] at e
        refine mm_T.call (t := 81) (as := [(.ref 3), (.int y4), (.int (y5 + y7)), (.int 0), (.int 1)]) (f' := (75, [some (.ref 42), some (.int y1), some (.ref 3), some (.int y3), some (.int y4), some (.int y5), some (.int y6), some (.int y7), none], [])) rfl (tX5_leadsTo (d + 1) y4 (y5 + y7) 0 1 3 I J 3 sp rr w nw (Or.inl rfl) g344 hg344) (fun v h hq => ?_)
        obtain ⟨rfl, rfl⟩ := hq
        refine mm_T.seg (f' := (87, [some (.ref 42), some (.int y1), some (.ref 3), some (.int y3), some (.int y4), some (.int y5), some (.int y6), some (.int y7), some (.int g344)], [(.int ((y5 + y7) + 1)), (.int g344), (.ref 3)])) (h' := (107, I, J, mm_rf 3 sp rr w nw)) 8 rfl ?_
        obtain ⟨g345, hg345⟩ : ∃ z, fX5_ironAt g344 ((y5 + y7) + 1) 3 I = z := ⟨_, rfl⟩
        try rw [hg345] at e
        refine mm_T.call (t := 69) (as := [(.ref 3), (.int g344), (.int ((y5 + y7) + 1))]) (f' := (90, [some (.ref 42), some (.int y1), some (.ref 3), some (.int y3), some (.int y4), some (.int y5), some (.int y6), some (.int y7), some (.int g344)], [])) rfl (tX5_ironAt (d + 1) g344 ((y5 + y7) + 1) 3 I J 3 sp rr w nw (Or.inl rfl) g345 hg345) (fun v h hq => ?_)
        obtain ⟨rfl, rfl⟩ := hq
        refine mm_T.br (c := g345 = 0) (a := ((95, [some (.ref 42), some (.int y1), some (.ref 3), some (.int y3), some (.int y4), some (.int y5), some (.int y6), some (.int y7), some (.int g344)], []), (107, I, J, mm_rf 3 sp rr w nw))) (b := ((93, [some (.ref 42), some (.int y1), some (.ref 3), some (.int y3), some (.int y4), some (.int y5), some (.int y6), some (.int y7), some (.int g344)], []), (107, I, J, mm_rf 3 sp rr w nw))) rfl (fun h2094 => ?_) (fun h2094 => ?_)
        · rw [if_pos h2094] at e
          refine mm_T.seg (f' := (111, [some (.ref 42), some (.int y1), some (.ref 3), some (.int y3), some (.int y4), some (.int y5), some (.int y6), some (.int y7), some (.int g344)], [(.ref 18), (.int y3), (.int y4), (.int (y5 + y7)), (.int y1), (.ref 3), (.int y6)])) (h' := (107, I, J, mm_rf 3 sp rr w nw)) 10 rfl ?_
          refine mm_T.seg (f' := (112, [some (.ref 42), some (.int y1), some (.ref 3), some (.int y3), some (.int y4), some (.int y5), some (.int y6), some (.int y7), some (.int g344)], [(.int y1), (.ref 18), (.int y3), (.int y4), (.int (y5 + y7)), (.int y1), (.ref 3), (.int y6)])) (h' := (107, I, J, mm_rf 3 sp rr w nw)) 1 rfl ?_
          obtain ⟨g346, hg346⟩ : ∃ z, fX7_strokesOf y1 I = z := ⟨_, rfl⟩
          try rw [hg346] at e
          refine mm_T.call (t := 110) (as := [(.ref 18), (.int y1)]) (f' := (115, [some (.ref 42), some (.int y1), some (.ref 3), some (.int y3), some (.int y4), some (.int y5), some (.int y6), some (.int y7), some (.int g344)], [(.int y3), (.int y4), (.int (y5 + y7)), (.int y1), (.ref 3), (.int y6)])) rfl (tX7_strokesOf (d + 0) y1 I J 3 sp rr w nw g346 hg346) (fun v h hq => ?_)
          obtain ⟨rfl, rfl⟩ := hq
          refine mm_T.seg (f' := (120, [some (.ref 42), some (.int y1), some (.ref 3), some (.int y3), some (.int y4), some (.int y5), some (.int y6), some (.int y7), some (.int g344)], [(.int y6), (.int (g346 + y7)), (.int y3), (.int y4), (.int (y5 + y7)), (.int y1), (.ref 3), (.int y6)])) (h' := (107, I, J, mm_rf 3 sp rr w nw)) 3 rfl ?_
          obtain ⟨o2095, eo2095, e⟩ := mm_bind e
          refine mm_T.call (t := 82) (as := [(.ref 3), (.int y1), (.int (y5 + y7)), (.int y4), (.int y3), (.int (g346 + y7)), (.int y6)]) (f' := (123, [some (.ref 42), some (.int y1), some (.ref 3), some (.int y3), some (.int y4), some (.int y5), some (.int y6), some (.int y7), some (.int g344)], [(.int y6)])) rfl (tX5_warmth (d + 0) n y1 (y5 + y7) y4 y3 (g346 + y7) y6 3 I J 3 sp rr w nw (Or.inl rfl) o2095 eo2095) (fun v h hq => ?_)
          obtain ⟨rfl, rfl⟩ := hq
          refine mm_T.seg (f' := (130, [some (.ref 42), some (.int y1), some (.ref 3), some (.int y3), some (.int y4), some (.int y5), some (.int (y6 + o2095.1)), some (.int y7), some (.int g344)], [(.int (y6 + o2095.1)), (.int 99)])) (h' := (107, o2095.2, J, mm_rf 3 sp rr w nw)) 4 rfl ?_
          obtain ⟨g347, hg347⟩ : ∃ z, fJ9_min 99 (y6 + o2095.1) = z := ⟨_, rfl⟩
          try rw [hg347] at e
          refine mm_T.call (t := 348) (as := [(.int 99), (.int (y6 + o2095.1))]) (f' := (133, [some (.ref 42), some (.int y1), some (.ref 3), some (.int y3), some (.int y4), some (.int y5), some (.int (y6 + o2095.1)), some (.int y7), some (.int g344)], [])) rfl (tJ9_min (d + 2) 99 (y6 + o2095.1) o2095.2 J 3 sp rr w nw g347 hg347) (fun v h hq => ?_)
          obtain ⟨rfl, rfl⟩ := hq
          refine mm_T.seg (f' := (139, [some (.ref 42), some (.int y1), some (.ref 3), some (.int y3), some (.int y4), some (.int y5), some (.int g347), some (.int y7), some (.int g344)], [(.int y1), (.ref 3), (.int g347)])) (h' := (107, o2095.2, J, mm_rf 3 sp rr w nw)) 4 rfl ?_
          obtain ⟨g348, hg348⟩ : ∃ z, fX5_bearsOf y1 3 o2095.2 = z := ⟨_, rfl⟩
          try rw [hg348] at e
          refine mm_T.call (t := 79) (as := [(.ref 3), (.int y1)]) (f' := (142, [some (.ref 42), some (.int y1), some (.ref 3), some (.int y3), some (.int y4), some (.int y5), some (.int g347), some (.int y7), some (.int g344)], [(.int g347)])) rfl (tX5_bearsOf (d + 1) y1 3 o2095.2 J 3 sp rr w nw (Or.inl rfl) g348 hg348) (fun v h hq => ?_)
          obtain ⟨rfl, rfl⟩ := hq
          refine mm_T.br (c := g348 < g347) (a := ((145, [some (.ref 42), some (.int y1), some (.ref 3), some (.int y3), some (.int y4), some (.int y5), some (.int g347), some (.int y7), some (.int g344)], []), (107, o2095.2, J, mm_rf 3 sp rr w nw))) (b := ((150, [some (.ref 42), some (.int y1), some (.ref 3), some (.int y3), some (.int y4), some (.int y5), some (.int g347), some (.int y7), some (.int g344)], []), (107, o2095.2, J, mm_rf 3 sp rr w nw))) rfl (fun h2096 => ?_) (fun h2096 => ?_)
          · rw [if_pos h2096] at e
            refine mm_T.seg (f' := (149, [some (.ref 42), some (.int y1), some (.ref 3), some (.int y3), some (.int y4), some (.int y5), some (.int g347), some (.int y7), some (.int g344)], [(.int (y7 + 1))])) (h' := (107, o2095.2, J, mm_rf 3 sp rr w nw)) 3 rfl ?_
            cases e
            exact mm_T.ret rfl (kr _ _ rfl)
          · rw [if_neg h2096] at e
            refine mm_T.seg (f' := (50, [some (.ref 42), some (.int y1), some (.ref 3), some (.int y3), some (.int g344), some (.int y5), some (.int g347), some (.int (y7 + 1)), some (.int g344)], [])) (h' := (107, o2095.2, J, mm_rf 3 sp rr w nw)) 4 rfl ?_
            refine mm_T.mask [true, true, true, true, true, true, true, true, false] ?_
            exact ih y1 y3 g344 y5 g347 (y7 + 1) o2095.2 J 3 sp rr w nw (Or.inl rfl) out e kr ke
        · rw [if_neg h2094] at e
          refine mm_T.seg (f' := (94, [some (.ref 42), some (.int y1), some (.ref 3), some (.int y3), some (.int y4), some (.int y5), some (.int y6), some (.int y7), some (.int g344)], [(.int (-1))])) (h' := (107, I, J, mm_rf 3 sp rr w nw)) 1 rfl ?_
          cases e
          exact mm_T.ret rfl (kr _ _ rfl)
      · rw [if_neg h2093] at e
        cases e
        refine mm_T.mask [false, false, false, false, false, false, false, false, false] ?_
        exact ke _ _ rfl
    · rw [fX8_strokesToScorch_L50] at e
      refine mm_T.seg (f' := (59, [some (.ref 42), some (.int y1), some (.ref 19), some (.int y3), some (.int y4), some (.int y5), some (.int y6), some (.int y7), none], [(.int (I 19 1)), (.int (y5 + y7))])) (h' := (107, I, J, mm_rf 19 sp rr w nw)) 5 rfl ?_
      refine mm_T.br (c := (y5 + y7) < (I 19 1)) (a := ((62, [some (.ref 42), some (.int y1), some (.ref 19), some (.int y3), some (.int y4), some (.int y5), some (.int y6), some (.int y7), none], []), (107, I, J, mm_rf 19 sp rr w nw))) (b := ((160, [some (.ref 42), some (.int y1), some (.ref 19), some (.int y3), some (.int y4), some (.int y5), some (.int y6), some (.int y7), none], []), (107, I, J, mm_rf 19 sp rr w nw))) rfl (fun h2093 => ?_) (fun h2093 => ?_)
      · rw [if_pos h2093] at e
        refine mm_T.seg (f' := (72, [some (.ref 42), some (.int y1), some (.ref 19), some (.int y3), some (.int y4), some (.int y5), some (.int y6), some (.int y7), none], [(.int 1), (.int 0), (.int (y5 + y7)), (.int y4), (.ref 19)])) (h' := (107, I, J, mm_rf 19 sp rr w nw)) 7 rfl ?_
        obtain ⟨g344, hg344⟩ : ∃ z, fX5_leadsTo y4 (y5 + y7) 0 1 19 I = z := ⟨_, rfl⟩
        try rw [hg344] at e
        refine mm_T.call (t := 81) (as := [(.ref 19), (.int y4), (.int (y5 + y7)), (.int 0), (.int 1)]) (f' := (75, [some (.ref 42), some (.int y1), some (.ref 19), some (.int y3), some (.int y4), some (.int y5), some (.int y6), some (.int y7), none], [])) rfl (tX5_leadsTo (d + 1) y4 (y5 + y7) 0 1 19 I J 19 sp rr w nw (Or.inr rfl) g344 hg344) (fun v h hq => ?_)
        obtain ⟨rfl, rfl⟩ := hq
        refine mm_T.seg (f' := (87, [some (.ref 42), some (.int y1), some (.ref 19), some (.int y3), some (.int y4), some (.int y5), some (.int y6), some (.int y7), some (.int g344)], [(.int ((y5 + y7) + 1)), (.int g344), (.ref 19)])) (h' := (107, I, J, mm_rf 19 sp rr w nw)) 8 rfl ?_
        obtain ⟨g345, hg345⟩ : ∃ z, fX5_ironAt g344 ((y5 + y7) + 1) 19 I = z := ⟨_, rfl⟩
        try rw [hg345] at e
        refine mm_T.call (t := 69) (as := [(.ref 19), (.int g344), (.int ((y5 + y7) + 1))]) (f' := (90, [some (.ref 42), some (.int y1), some (.ref 19), some (.int y3), some (.int y4), some (.int y5), some (.int y6), some (.int y7), some (.int g344)], [])) rfl (tX5_ironAt (d + 1) g344 ((y5 + y7) + 1) 19 I J 19 sp rr w nw (Or.inr rfl) g345 hg345) (fun v h hq => ?_)
        obtain ⟨rfl, rfl⟩ := hq
        refine mm_T.br (c := g345 = 0) (a := ((95, [some (.ref 42), some (.int y1), some (.ref 19), some (.int y3), some (.int y4), some (.int y5), some (.int y6), some (.int y7), some (.int g344)], []), (107, I, J, mm_rf 19 sp rr w nw))) (b := ((93, [some (.ref 42), some (.int y1), some (.ref 19), some (.int y3), some (.int y4), some (.int y5), some (.int y6), some (.int y7), some (.int g344)], []), (107, I, J, mm_rf 19 sp rr w nw))) rfl (fun h2094 => ?_) (fun h2094 => ?_)
        · rw [if_pos h2094] at e
          refine mm_T.seg (f' := (111, [some (.ref 42), some (.int y1), some (.ref 19), some (.int y3), some (.int y4), some (.int y5), some (.int y6), some (.int y7), some (.int g344)], [(.ref 18), (.int y3), (.int y4), (.int (y5 + y7)), (.int y1), (.ref 19), (.int y6)])) (h' := (107, I, J, mm_rf 19 sp rr w nw)) 10 rfl ?_
          refine mm_T.seg (f' := (112, [some (.ref 42), some (.int y1), some (.ref 19), some (.int y3), some (.int y4), some (.int y5), some (.int y6), some (.int y7), some (.int g344)], [(.int y1), (.ref 18), (.int y3), (.int y4), (.int (y5 + y7)), (.int y1), (.ref 19), (.int y6)])) (h' := (107, I, J, mm_rf 19 sp rr w nw)) 1 rfl ?_
          obtain ⟨g346, hg346⟩ : ∃ z, fX7_strokesOf y1 I = z := ⟨_, rfl⟩
          try rw [hg346] at e
          refine mm_T.call (t := 110) (as := [(.ref 18), (.int y1)]) (f' := (115, [some (.ref 42), some (.int y1), some (.ref 19), some (.int y3), some (.int y4), some (.int y5), some (.int y6), some (.int y7), some (.int g344)], [(.int y3), (.int y4), (.int (y5 + y7)), (.int y1), (.ref 19), (.int y6)])) rfl (tX7_strokesOf (d + 0) y1 I J 19 sp rr w nw g346 hg346) (fun v h hq => ?_)
          obtain ⟨rfl, rfl⟩ := hq
          refine mm_T.seg (f' := (120, [some (.ref 42), some (.int y1), some (.ref 19), some (.int y3), some (.int y4), some (.int y5), some (.int y6), some (.int y7), some (.int g344)], [(.int y6), (.int (g346 + y7)), (.int y3), (.int y4), (.int (y5 + y7)), (.int y1), (.ref 19), (.int y6)])) (h' := (107, I, J, mm_rf 19 sp rr w nw)) 3 rfl ?_
          obtain ⟨o2095, eo2095, e⟩ := mm_bind e
          refine mm_T.call (t := 82) (as := [(.ref 19), (.int y1), (.int (y5 + y7)), (.int y4), (.int y3), (.int (g346 + y7)), (.int y6)]) (f' := (123, [some (.ref 42), some (.int y1), some (.ref 19), some (.int y3), some (.int y4), some (.int y5), some (.int y6), some (.int y7), some (.int g344)], [(.int y6)])) rfl (tX5_warmth (d + 0) n y1 (y5 + y7) y4 y3 (g346 + y7) y6 19 I J 19 sp rr w nw (Or.inr rfl) o2095 eo2095) (fun v h hq => ?_)
          obtain ⟨rfl, rfl⟩ := hq
          refine mm_T.seg (f' := (130, [some (.ref 42), some (.int y1), some (.ref 19), some (.int y3), some (.int y4), some (.int y5), some (.int (y6 + o2095.1)), some (.int y7), some (.int g344)], [(.int (y6 + o2095.1)), (.int 99)])) (h' := (107, o2095.2, J, mm_rf 19 sp rr w nw)) 4 rfl ?_
          obtain ⟨g347, hg347⟩ : ∃ z, fJ9_min 99 (y6 + o2095.1) = z := ⟨_, rfl⟩
          try rw [hg347] at e
          refine mm_T.call (t := 348) (as := [(.int 99), (.int (y6 + o2095.1))]) (f' := (133, [some (.ref 42), some (.int y1), some (.ref 19), some (.int y3), some (.int y4), some (.int y5), some (.int (y6 + o2095.1)), some (.int y7), some (.int g344)], [])) rfl (tJ9_min (d + 2) 99 (y6 + o2095.1) o2095.2 J 19 sp rr w nw g347 hg347) (fun v h hq => ?_)
          obtain ⟨rfl, rfl⟩ := hq
          refine mm_T.seg (f' := (139, [some (.ref 42), some (.int y1), some (.ref 19), some (.int y3), some (.int y4), some (.int y5), some (.int g347), some (.int y7), some (.int g344)], [(.int y1), (.ref 19), (.int g347)])) (h' := (107, o2095.2, J, mm_rf 19 sp rr w nw)) 4 rfl ?_
          obtain ⟨g348, hg348⟩ : ∃ z, fX5_bearsOf y1 19 o2095.2 = z := ⟨_, rfl⟩
          try rw [hg348] at e
          refine mm_T.call (t := 79) (as := [(.ref 19), (.int y1)]) (f' := (142, [some (.ref 42), some (.int y1), some (.ref 19), some (.int y3), some (.int y4), some (.int y5), some (.int g347), some (.int y7), some (.int g344)], [(.int g347)])) rfl (tX5_bearsOf (d + 1) y1 19 o2095.2 J 19 sp rr w nw (Or.inr rfl) g348 hg348) (fun v h hq => ?_)
          obtain ⟨rfl, rfl⟩ := hq
          refine mm_T.br (c := g348 < g347) (a := ((145, [some (.ref 42), some (.int y1), some (.ref 19), some (.int y3), some (.int y4), some (.int y5), some (.int g347), some (.int y7), some (.int g344)], []), (107, o2095.2, J, mm_rf 19 sp rr w nw))) (b := ((150, [some (.ref 42), some (.int y1), some (.ref 19), some (.int y3), some (.int y4), some (.int y5), some (.int g347), some (.int y7), some (.int g344)], []), (107, o2095.2, J, mm_rf 19 sp rr w nw))) rfl (fun h2096 => ?_) (fun h2096 => ?_)
          · rw [if_pos h2096] at e
            refine mm_T.seg (f' := (149, [some (.ref 42), some (.int y1), some (.ref 19), some (.int y3), some (.int y4), some (.int y5), some (.int g347), some (.int y7), some (.int g344)], [(.int (y7 + 1))])) (h' := (107, o2095.2, J, mm_rf 19 sp rr w nw)) 3 rfl ?_
            cases e
            exact mm_T.ret rfl (kr _ _ rfl)
          · rw [if_neg h2096] at e
            refine mm_T.seg (f' := (50, [some (.ref 42), some (.int y1), some (.ref 19), some (.int y3), some (.int g344), some (.int y5), some (.int g347), some (.int (y7 + 1)), some (.int g344)], [])) (h' := (107, o2095.2, J, mm_rf 19 sp rr w nw)) 4 rfl ?_
            refine mm_T.mask [true, true, true, true, true, true, true, true, false] ?_
            exact ih y1 y3 g344 y5 g347 (y7 + 1) o2095.2 J 19 sp rr w nw (Or.inr rfl) out e kr ke
        · rw [if_neg h2094] at e
          refine mm_T.seg (f' := (94, [some (.ref 42), some (.int y1), some (.ref 19), some (.int y3), some (.int y4), some (.int y5), some (.int y6), some (.int y7), some (.int g344)], [(.int (-1))])) (h' := (107, I, J, mm_rf 19 sp rr w nw)) 1 rfl ?_
          cases e
          exact mm_T.ret rfl (kr _ _ rfl)
      · rw [if_neg h2093] at e
        cases e
        refine mm_T.mask [false, false, false, false, false, false, false, false, false] ?_
        exact ke _ _ rfl
set_option maxRecDepth 100000 in
set_option maxHeartbeats 4000000 in
theorem tX8_strokesToScorch (d n : Nat) (x1 : Int32) (I : Nat → Nat → Int32) (J : Nat → Nat → Int64) (rv sp rr w nw : Nat) (hrv : rv = 3 ∨ rv = 19) (out : Int32 × (Nat → Nat → Int32)) (e : fX8_strokesToScorch n x1 I rv = some out) : mm_T none (d + 3) 129 (mm_ent 129 [(.ref 42), (.int x1)]) (107, I, J, mm_rf rv sp rr w nw) (fun v h => v = some (.int out.1) ∧ h = (107, out.2, J, mm_rf rv sp rr w nw)) := by
  rcases hrv with rfl | rfl
  · unfold fX8_strokesToScorch at e
    refine mm_T.seg (f' := (4, [some (.ref 42), some (.int x1), none, none, none, none, none, none, none], [(.ref 18)])) (h' := (107, I, J, mm_rf 3 sp rr w nw)) 2 rfl ?_
    refine mm_T.seg (f' := (12, [some (.ref 42), some (.int x1), some (.ref 3), none, none, none, none, none, none], [(.ref 18)])) (h' := (107, I, J, mm_rf 3 sp rr w nw)) 4 rfl ?_
    refine mm_T.seg (f' := (13, [some (.ref 42), some (.int x1), some (.ref 3), none, none, none, none, none, none], [(.int x1), (.ref 18)])) (h' := (107, I, J, mm_rf 3 sp rr w nw)) 1 rfl ?_
    obtain ⟨o2092, eo2092, e⟩ := mm_bind e
    refine mm_T.call (t := 118) (as := [(.ref 18), (.int x1)]) (f' := (16, [some (.ref 42), some (.int x1), some (.ref 3), none, none, none, none, none, none], [])) rfl (tX7_burdenOf (d + 0) n x1 I J 3 sp rr w nw (Or.inl rfl) o2092 eo2092) (fun v h hq => ?_)
    obtain ⟨rfl, rfl⟩ := hq
    refine mm_T.seg (f' := (21, [some (.ref 42), some (.int x1), some (.ref 3), some (.int o2092), none, none, none, none, none], [(.ref 18)])) (h' := (107, I, J, mm_rf 3 sp rr w nw)) 3 rfl ?_
    refine mm_T.seg (f' := (22, [some (.ref 42), some (.int x1), some (.ref 3), some (.int o2092), none, none, none, none, none], [(.int x1), (.ref 18)])) (h' := (107, I, J, mm_rf 3 sp rr w nw)) 1 rfl ?_
    obtain ⟨g341, hg341⟩ : ∃ z, fX7_columnOf x1 I = z := ⟨_, rfl⟩
    try rw [hg341] at e
    refine mm_T.call (t := 105) (as := [(.ref 18), (.int x1)]) (f' := (25, [some (.ref 42), some (.int x1), some (.ref 3), some (.int o2092), none, none, none, none, none], [])) rfl (tX7_columnOf (d + 0) x1 I J 3 sp rr w nw g341 hg341) (fun v h hq => ?_)
    obtain ⟨rfl, rfl⟩ := hq
    refine mm_T.seg (f' := (31, [some (.ref 42), some (.int x1), some (.ref 3), some (.int o2092), some (.int g341), none, none, none, none], [(.ref 18)])) (h' := (107, I, J, mm_rf 3 sp rr w nw)) 3 rfl ?_
    refine mm_T.seg (f' := (32, [some (.ref 42), some (.int x1), some (.ref 3), some (.int o2092), some (.int g341), none, none, none, none], [(.int x1), (.ref 18)])) (h' := (107, I, J, mm_rf 3 sp rr w nw)) 1 rfl ?_
    obtain ⟨g342, hg342⟩ : ∃ z, fX7_rowOf x1 I = z := ⟨_, rfl⟩
    try rw [hg342] at e
    refine mm_T.call (t := 106) (as := [(.ref 18), (.int x1)]) (f' := (35, [some (.ref 42), some (.int x1), some (.ref 3), some (.int o2092), some (.int g341), none, none, none, none], [])) rfl (tX7_rowOf (d + 0) x1 I J 3 sp rr w nw g342 hg342) (fun v h hq => ?_)
    obtain ⟨rfl, rfl⟩ := hq
    refine mm_T.seg (f' := (41, [some (.ref 42), some (.int x1), some (.ref 3), some (.int o2092), some (.int g341), some (.int g342), none, none, none], [(.ref 18)])) (h' := (107, I, J, mm_rf 3 sp rr w nw)) 3 rfl ?_
    refine mm_T.seg (f' := (42, [some (.ref 42), some (.int x1), some (.ref 3), some (.int o2092), some (.int g341), some (.int g342), none, none, none], [(.int x1), (.ref 18)])) (h' := (107, I, J, mm_rf 3 sp rr w nw)) 1 rfl ?_
    obtain ⟨g343, hg343⟩ : ∃ z, fX7_heatOf x1 I = z := ⟨_, rfl⟩
    try rw [hg343] at e
    refine mm_T.call (t := 107) (as := [(.ref 18), (.int x1)]) (f' := (45, [some (.ref 42), some (.int x1), some (.ref 3), some (.int o2092), some (.int g341), some (.int g342), none, none, none], [])) rfl (tX7_heatOf (d + 0) x1 I J 3 sp rr w nw g343 hg343) (fun v h hq => ?_)
    obtain ⟨rfl, rfl⟩ := hq
    refine mm_T.seg (f' := (50, [some (.ref 42), some (.int x1), some (.ref 3), some (.int o2092), some (.int g341), some (.int g342), some (.int g343), some (.int 0), none], [])) (h' := (107, I, J, mm_rf 3 sp rr w nw)) 3 rfl ?_
    refine mm_T.mask [true, true, true, true, true, true, true, true, false] ?_
    obtain ⟨o2097, eo2097, e⟩ := mm_bind e
    rcases o2097 with ⟨va2098 | vb2098, vs2098_0⟩
    · cases e
      refine tlX8_strokesToScorch_L50 d _ n x1 o2092 g341 g342 g343 0 I J 3 sp rr w nw (Or.inl rfl) _ eo2097 (fun z z0 hz => ?_) (fun z z0 hz => ?_)
      · cases hz; exact ⟨rfl, rfl⟩
      · cases hz
    · refine tlX8_strokesToScorch_L50 d _ n x1 o2092 g341 g342 g343 0 I J 3 sp rr w nw (Or.inl rfl) (.inr vb2098, vs2098_0) eo2097 (fun z z0 hz => ?_) (fun z z0 hz => ?_)
      · cases hz
      · cases hz
        refine mm_T.seg (f' := (161, [none, none, none, none, none, none, none, none, none], [(.int (-1))])) (h' := (107, vs2098_0, J, mm_rf 3 sp rr w nw)) 1 rfl ?_
        cases e
        exact mm_T.ret rfl ⟨rfl, rfl⟩
  · unfold fX8_strokesToScorch at e
    refine mm_T.seg (f' := (4, [some (.ref 42), some (.int x1), none, none, none, none, none, none, none], [(.ref 18)])) (h' := (107, I, J, mm_rf 19 sp rr w nw)) 2 rfl ?_
    refine mm_T.seg (f' := (12, [some (.ref 42), some (.int x1), some (.ref 19), none, none, none, none, none, none], [(.ref 18)])) (h' := (107, I, J, mm_rf 19 sp rr w nw)) 4 rfl ?_
    refine mm_T.seg (f' := (13, [some (.ref 42), some (.int x1), some (.ref 19), none, none, none, none, none, none], [(.int x1), (.ref 18)])) (h' := (107, I, J, mm_rf 19 sp rr w nw)) 1 rfl ?_
    obtain ⟨o2092, eo2092, e⟩ := mm_bind e
    refine mm_T.call (t := 118) (as := [(.ref 18), (.int x1)]) (f' := (16, [some (.ref 42), some (.int x1), some (.ref 19), none, none, none, none, none, none], [])) rfl (tX7_burdenOf (d + 0) n x1 I J 19 sp rr w nw (Or.inr rfl) o2092 eo2092) (fun v h hq => ?_)
    obtain ⟨rfl, rfl⟩ := hq
    refine mm_T.seg (f' := (21, [some (.ref 42), some (.int x1), some (.ref 19), some (.int o2092), none, none, none, none, none], [(.ref 18)])) (h' := (107, I, J, mm_rf 19 sp rr w nw)) 3 rfl ?_
    refine mm_T.seg (f' := (22, [some (.ref 42), some (.int x1), some (.ref 19), some (.int o2092), none, none, none, none, none], [(.int x1), (.ref 18)])) (h' := (107, I, J, mm_rf 19 sp rr w nw)) 1 rfl ?_
    obtain ⟨g341, hg341⟩ : ∃ z, fX7_columnOf x1 I = z := ⟨_, rfl⟩
    try rw [hg341] at e
    refine mm_T.call (t := 105) (as := [(.ref 18), (.int x1)]) (f' := (25, [some (.ref 42), some (.int x1), some (.ref 19), some (.int o2092), none, none, none, none, none], [])) rfl (tX7_columnOf (d + 0) x1 I J 19 sp rr w nw g341 hg341) (fun v h hq => ?_)
    obtain ⟨rfl, rfl⟩ := hq
    refine mm_T.seg (f' := (31, [some (.ref 42), some (.int x1), some (.ref 19), some (.int o2092), some (.int g341), none, none, none, none], [(.ref 18)])) (h' := (107, I, J, mm_rf 19 sp rr w nw)) 3 rfl ?_
    refine mm_T.seg (f' := (32, [some (.ref 42), some (.int x1), some (.ref 19), some (.int o2092), some (.int g341), none, none, none, none], [(.int x1), (.ref 18)])) (h' := (107, I, J, mm_rf 19 sp rr w nw)) 1 rfl ?_
    obtain ⟨g342, hg342⟩ : ∃ z, fX7_rowOf x1 I = z := ⟨_, rfl⟩
    try rw [hg342] at e
    refine mm_T.call (t := 106) (as := [(.ref 18), (.int x1)]) (f' := (35, [some (.ref 42), some (.int x1), some (.ref 19), some (.int o2092), some (.int g341), none, none, none, none], [])) rfl (tX7_rowOf (d + 0) x1 I J 19 sp rr w nw g342 hg342) (fun v h hq => ?_)
    obtain ⟨rfl, rfl⟩ := hq
    refine mm_T.seg (f' := (41, [some (.ref 42), some (.int x1), some (.ref 19), some (.int o2092), some (.int g341), some (.int g342), none, none, none], [(.ref 18)])) (h' := (107, I, J, mm_rf 19 sp rr w nw)) 3 rfl ?_
    refine mm_T.seg (f' := (42, [some (.ref 42), some (.int x1), some (.ref 19), some (.int o2092), some (.int g341), some (.int g342), none, none, none], [(.int x1), (.ref 18)])) (h' := (107, I, J, mm_rf 19 sp rr w nw)) 1 rfl ?_
    obtain ⟨g343, hg343⟩ : ∃ z, fX7_heatOf x1 I = z := ⟨_, rfl⟩
    try rw [hg343] at e
    refine mm_T.call (t := 107) (as := [(.ref 18), (.int x1)]) (f' := (45, [some (.ref 42), some (.int x1), some (.ref 19), some (.int o2092), some (.int g341), some (.int g342), none, none, none], [])) rfl (tX7_heatOf (d + 0) x1 I J 19 sp rr w nw g343 hg343) (fun v h hq => ?_)
    obtain ⟨rfl, rfl⟩ := hq
    refine mm_T.seg (f' := (50, [some (.ref 42), some (.int x1), some (.ref 19), some (.int o2092), some (.int g341), some (.int g342), some (.int g343), some (.int 0), none], [])) (h' := (107, I, J, mm_rf 19 sp rr w nw)) 3 rfl ?_
    refine mm_T.mask [true, true, true, true, true, true, true, true, false] ?_
    obtain ⟨o2097, eo2097, e⟩ := mm_bind e
    rcases o2097 with ⟨va2098 | vb2098, vs2098_0⟩
    · cases e
      refine tlX8_strokesToScorch_L50 d _ n x1 o2092 g341 g342 g343 0 I J 19 sp rr w nw (Or.inr rfl) _ eo2097 (fun z z0 hz => ?_) (fun z z0 hz => ?_)
      · cases hz; exact ⟨rfl, rfl⟩
      · cases hz
    · refine tlX8_strokesToScorch_L50 d _ n x1 o2092 g341 g342 g343 0 I J 19 sp rr w nw (Or.inr rfl) (.inr vb2098, vs2098_0) eo2097 (fun z z0 hz => ?_) (fun z z0 hz => ?_)
      · cases hz
      · cases hz
        refine mm_T.seg (f' := (161, [none, none, none, none, none, none, none, none, none], [(.int (-1))])) (h' := (107, vs2098_0, J, mm_rf 19 sp rr w nw)) 1 rfl ?_
        cases e
        exact mm_T.ret rfl ⟨rfl, rfl⟩
set_option maxRecDepth 100000 in
set_option maxHeartbeats 4000000 in
theorem tlX9_widthOf_L4 (d : Nat) (Q : Option Value → mm_H → Prop) : ∀ (n : Nat) (y1 : Int32) (y2 : Int32) (y3 : Int32) (I : Nat → Nat → Int32) (J : Nat → Nat → Int64) (rv sp rr w nw : Nat), (rv = 3 ∨ rv = 19) → ∀ (out : Int32), fX9_widthOf_L4 n y1 y2 y3 I rv = some out → mm_T none (d + 2) 131 (46, [none, none, some (.int out), none], []) (107, I, J, mm_rf rv sp rr w nw) Q → mm_T none (d + 2) 131 (4, [some (.ref 45), some (.int y1), some (.int y2), some (.int y3)], []) (107, I, J, mm_rf rv sp rr w nw) Q := by
  intro n
  induction n with
  | zero =>
    intro y1 y2 y3 I J rv sp rr w nw hrv out e k
    rw [fX9_widthOf_L4] at e; cases e
  | succ n ih =>
    intro y1 y2 y3 I J rv sp rr w nw hrv out e k
    rcases hrv with rfl | rfl
    · rw [fX9_widthOf_L4] at e
      refine mm_T.seg (f' := (9, [some (.ref 45), some (.int y1), some (.int y2), some (.int y3)], [(.ref 18), (.int y3)])) (h' := (107, I, J, mm_rf 3 sp rr w nw)) 3 rfl ?_
      refine mm_T.seg (f' := (15, [some (.ref 45), some (.int y1), some (.int y2), some (.int y3)], [(.int (I 3 5)), (.int y3)])) (h' := (107, I, J, mm_rf 3 sp rr w nw)) 2 rfl ?_
      refine mm_T.br (c := y3 < (I 3 5)) (a := ((18, [some (.ref 45), some (.int y1), some (.int y2), some (.int y3)], []), (107, I, J, mm_rf 3 sp rr w nw))) (b := ((46, [some (.ref 45), some (.int y1), some (.int y2), some (.int y3)], []), (107, I, J, mm_rf 3 sp rr w nw))) rfl (fun h2101 => ?_) (fun h2101 => ?_)
      · rw [if_pos h2101] at e
        refine mm_T.seg (f' := (23, [some (.ref 45), some (.int y1), some (.int y2), some (.int y3)], [(.int ((y1 >>> (y3 &&& 31)) &&& 1))])) (h' := (107, I, J, mm_rf 3 sp rr w nw)) 5 rfl ?_
        refine mm_T.br (c := ((y1 >>> (y3 &&& 31)) &&& 1) = 0) (a := ((40, [some (.ref 45), some (.int y1), some (.int y2), some (.int y3)], []), (107, I, J, mm_rf 3 sp rr w nw))) (b := ((26, [some (.ref 45), some (.int y1), some (.int y2), some (.int y3)], []), (107, I, J, mm_rf 3 sp rr w nw))) rfl (fun h2102 => ?_) (fun h2102 => ?_)
        · rw [if_pos h2102] at e
          refine mm_T.seg (f' := (4, [some (.ref 45), some (.int y1), some (.int y2), some (.int (y3 + 1))], [])) (h' := (107, I, J, mm_rf 3 sp rr w nw)) 2 rfl ?_
          refine mm_T.mask [true, true, true, true] ?_
          exact ih y1 y2 (y3 + 1) I J 3 sp rr w nw (Or.inl rfl) out e k
        · rw [if_neg h2102] at e
          refine mm_T.seg (f' := (31, [some (.ref 45), some (.int y1), some (.int y2), some (.int y3)], [(.ref 18), (.int y2)])) (h' := (107, I, J, mm_rf 3 sp rr w nw)) 3 rfl ?_
          refine mm_T.seg (f' := (35, [some (.ref 45), some (.int y1), some (.int y2), some (.int y3)], [(.int y3), (.ref 3), (.int y2)])) (h' := (107, I, J, mm_rf 3 sp rr w nw)) 2 rfl ?_
          obtain ⟨g350, hg350⟩ : ∃ z, fX5_loadWide y3 3 I = z := ⟨_, rfl⟩
          try rw [hg350] at e
          refine mm_T.call (t := 80) (as := [(.ref 3), (.int y3)]) (f' := (38, [some (.ref 45), some (.int y1), some (.int y2), some (.int y3)], [(.int y2)])) rfl (tX5_loadWide (d + 0) y3 3 I J 3 sp rr w nw (Or.inl rfl) g350 hg350) (fun v h hq => ?_)
          obtain ⟨rfl, rfl⟩ := hq
          refine mm_T.seg (f' := (4, [some (.ref 45), some (.int y1), some (.int (y2 + g350)), some (.int (y3 + 1))], [])) (h' := (107, I, J, mm_rf 3 sp rr w nw)) 4 rfl ?_
          refine mm_T.mask [true, true, true, true] ?_
          exact ih y1 (y2 + g350) (y3 + 1) I J 3 sp rr w nw (Or.inl rfl) out e k
      · rw [if_neg h2101] at e
        cases e
        refine mm_T.mask [false, false, true, false] ?_
        exact k
    · rw [fX9_widthOf_L4] at e
      refine mm_T.seg (f' := (9, [some (.ref 45), some (.int y1), some (.int y2), some (.int y3)], [(.ref 18), (.int y3)])) (h' := (107, I, J, mm_rf 19 sp rr w nw)) 3 rfl ?_
      refine mm_T.seg (f' := (15, [some (.ref 45), some (.int y1), some (.int y2), some (.int y3)], [(.int (I 19 5)), (.int y3)])) (h' := (107, I, J, mm_rf 19 sp rr w nw)) 2 rfl ?_
      refine mm_T.br (c := y3 < (I 19 5)) (a := ((18, [some (.ref 45), some (.int y1), some (.int y2), some (.int y3)], []), (107, I, J, mm_rf 19 sp rr w nw))) (b := ((46, [some (.ref 45), some (.int y1), some (.int y2), some (.int y3)], []), (107, I, J, mm_rf 19 sp rr w nw))) rfl (fun h2101 => ?_) (fun h2101 => ?_)
      · rw [if_pos h2101] at e
        refine mm_T.seg (f' := (23, [some (.ref 45), some (.int y1), some (.int y2), some (.int y3)], [(.int ((y1 >>> (y3 &&& 31)) &&& 1))])) (h' := (107, I, J, mm_rf 19 sp rr w nw)) 5 rfl ?_
        refine mm_T.br (c := ((y1 >>> (y3 &&& 31)) &&& 1) = 0) (a := ((40, [some (.ref 45), some (.int y1), some (.int y2), some (.int y3)], []), (107, I, J, mm_rf 19 sp rr w nw))) (b := ((26, [some (.ref 45), some (.int y1), some (.int y2), some (.int y3)], []), (107, I, J, mm_rf 19 sp rr w nw))) rfl (fun h2102 => ?_) (fun h2102 => ?_)
        · rw [if_pos h2102] at e
          refine mm_T.seg (f' := (4, [some (.ref 45), some (.int y1), some (.int y2), some (.int (y3 + 1))], [])) (h' := (107, I, J, mm_rf 19 sp rr w nw)) 2 rfl ?_
          refine mm_T.mask [true, true, true, true] ?_
          exact ih y1 y2 (y3 + 1) I J 19 sp rr w nw (Or.inr rfl) out e k
        · rw [if_neg h2102] at e
          refine mm_T.seg (f' := (31, [some (.ref 45), some (.int y1), some (.int y2), some (.int y3)], [(.ref 18), (.int y2)])) (h' := (107, I, J, mm_rf 19 sp rr w nw)) 3 rfl ?_
          refine mm_T.seg (f' := (35, [some (.ref 45), some (.int y1), some (.int y2), some (.int y3)], [(.int y3), (.ref 19), (.int y2)])) (h' := (107, I, J, mm_rf 19 sp rr w nw)) 2 rfl ?_
          obtain ⟨g350, hg350⟩ : ∃ z, fX5_loadWide y3 19 I = z := ⟨_, rfl⟩
          try rw [hg350] at e
          refine mm_T.call (t := 80) (as := [(.ref 19), (.int y3)]) (f' := (38, [some (.ref 45), some (.int y1), some (.int y2), some (.int y3)], [(.int y2)])) rfl (tX5_loadWide (d + 0) y3 19 I J 19 sp rr w nw (Or.inr rfl) g350 hg350) (fun v h hq => ?_)
          obtain ⟨rfl, rfl⟩ := hq
          refine mm_T.seg (f' := (4, [some (.ref 45), some (.int y1), some (.int (y2 + g350)), some (.int (y3 + 1))], [])) (h' := (107, I, J, mm_rf 19 sp rr w nw)) 4 rfl ?_
          refine mm_T.mask [true, true, true, true] ?_
          exact ih y1 (y2 + g350) (y3 + 1) I J 19 sp rr w nw (Or.inr rfl) out e k
      · rw [if_neg h2101] at e
        cases e
        refine mm_T.mask [false, false, true, false] ?_
        exact k
set_option maxRecDepth 100000 in
set_option maxHeartbeats 4000000 in
theorem tX9_widthOf (d n : Nat) (x1 : Int32) (I : Nat → Nat → Int32) (J : Nat → Nat → Int64) (rv sp rr w nw : Nat) (hrv : rv = 3 ∨ rv = 19) (out : Int32) (e : fX9_widthOf n x1 I rv = some out) : mm_T none (d + 2) 131 (mm_ent 131 [(.ref 45), (.int x1)]) (107, I, J, mm_rf rv sp rr w nw) (fun v h => v = some (.int out) ∧ h = (107, I, J, mm_rf rv sp rr w nw)) := by
  rcases hrv with rfl | rfl
  · unfold fX9_widthOf at e
    refine mm_T.seg (f' := (4, [some (.ref 45), some (.int x1), some (.int 0), some (.int 0)], [])) (h' := (107, I, J, mm_rf 3 sp rr w nw)) 4 rfl ?_
    refine mm_T.mask [true, true, true, true] ?_
    obtain ⟨o2103, eo2103, e⟩ := mm_bind e
    refine tlX9_widthOf_L4 d _ n x1 0 0 I J 3 sp rr w nw (Or.inl rfl) o2103 eo2103 ?_
    refine mm_T.seg (f' := (47, [none, none, some (.int o2103), none], [(.int o2103)])) (h' := (107, I, J, mm_rf 3 sp rr w nw)) 1 rfl ?_
    cases e
    exact mm_T.ret rfl ⟨rfl, rfl⟩
  · unfold fX9_widthOf at e
    refine mm_T.seg (f' := (4, [some (.ref 45), some (.int x1), some (.int 0), some (.int 0)], [])) (h' := (107, I, J, mm_rf 19 sp rr w nw)) 4 rfl ?_
    refine mm_T.mask [true, true, true, true] ?_
    obtain ⟨o2103, eo2103, e⟩ := mm_bind e
    refine tlX9_widthOf_L4 d _ n x1 0 0 I J 19 sp rr w nw (Or.inr rfl) o2103 eo2103 ?_
    refine mm_T.seg (f' := (47, [none, none, some (.int o2103), none], [(.int o2103)])) (h' := (107, I, J, mm_rf 19 sp rr w nw)) 1 rfl ?_
    cases e
    exact mm_T.ret rfl ⟨rfl, rfl⟩
set_option maxRecDepth 100000 in
set_option maxHeartbeats 4000000 in
theorem tlX9_widestSet_L46 (d : Nat) (Q : Option Value → mm_H → Prop) : ∀ (n : Nat) (y2 : Int32) (y3 : Int32) (y4 : Int32) (y5 : Int32) (y6 : Int32) (I : Nat → Nat → Int32) (J : Nat → Nat → Int64) (rv sp rr w nw : Nat), (rv = 3 ∨ rv = 19) → ∀ (out : Int32), fX9_widestSet_L46 n y2 y3 y4 y5 y6 I rv = some out → mm_T none (d + 4) 132 (106, [none, none, none, none, some (.int out), none, none, none], []) (107, I, J, mm_rf rv sp rr w nw) Q → mm_T none (d + 4) 132 (46, [some (.ref 45), none, some (.int y2), some (.int y3), some (.int y4), some (.int y5), some (.int y6), none], []) (107, I, J, mm_rf rv sp rr w nw) Q := by
  intro n
  induction n with
  | zero =>
    intro y2 y3 y4 y5 y6 I J rv sp rr w nw hrv out e k
    rw [fX9_widestSet_L46] at e; cases e
  | succ n ih =>
    intro y2 y3 y4 y5 y6 I J rv sp rr w nw hrv out e k
    rcases hrv with rfl | rfl
    · rw [fX9_widestSet_L46] at e
      refine mm_T.seg (f' := (52, [some (.ref 45), none, some (.int y2), some (.int y3), some (.int y4), some (.int y5), some (.int y6), none], [(.ref 18), (.int y6)])) (h' := (107, I, J, mm_rf 3 sp rr w nw)) 3 rfl ?_
      obtain ⟨g354, hg354⟩ : ∃ z, fX7_allLoads I 3 = z := ⟨_, rfl⟩
      try rw [hg354] at e
      refine mm_T.call (t := 115) (as := [(.ref 18)]) (f' := (55, [some (.ref 45), none, some (.int y2), some (.int y3), some (.int y4), some (.int y5), some (.int y6), none], [(.int y6)])) rfl (tX7_allLoads (d + 3) I J 3 sp rr w nw (Or.inl rfl) g354 hg354) (fun v h hq => ?_)
      obtain ⟨rfl, rfl⟩ := hq
      refine mm_T.br (c := g354 < y6) (a := ((106, [some (.ref 45), none, some (.int y2), some (.int y3), some (.int y4), some (.int y5), some (.int y6), none], []), (107, I, J, mm_rf 3 sp rr w nw))) (b := ((58, [some (.ref 45), none, some (.int y2), some (.int y3), some (.int y4), some (.int y5), some (.int y6), none], []), (107, I, J, mm_rf 3 sp rr w nw))) rfl (fun h2113 => ?_) (fun h2113 => ?_)
      · rw [if_pos h2113] at e
        cases e
        refine mm_T.mask [false, false, false, false, true, false, false, false] ?_
        exact k
      · rw [if_neg h2113] at e
        refine mm_T.seg (f' := (64, [some (.ref 45), none, some (.int y2), some (.int y3), some (.int y4), some (.int y5), some (.int y6), none], [(.int (y6 &&& (y2 ^^^ (-1))))])) (h' := (107, I, J, mm_rf 3 sp rr w nw)) 5 rfl ?_
        refine mm_T.br (c := (y6 &&& (y2 ^^^ (-1))) = 0) (a := ((67, [some (.ref 45), none, some (.int y2), some (.int y3), some (.int y4), some (.int y5), some (.int y6), none], []), (107, I, J, mm_rf 3 sp rr w nw))) (b := ((76, [some (.ref 45), none, some (.int y2), some (.int y3), some (.int y4), some (.int y5), some (.int y6), none], []), (107, I, J, mm_rf 3 sp rr w nw))) rfl (fun h2114 => ?_) (fun h2114 => ?_)
        · rw [if_pos h2114] at e
          refine mm_T.seg (f' := (70, [some (.ref 45), none, some (.int y2), some (.int y3), some (.int y4), some (.int y5), some (.int y6), none], [(.int y6), (.ref 45)])) (h' := (107, I, J, mm_rf 3 sp rr w nw)) 2 rfl ?_
          obtain ⟨o2115, eo2115, e⟩ := mm_bind e
          refine mm_T.call (t := 131) (as := [(.ref 45), (.int y6)]) (f' := (73, [some (.ref 45), none, some (.int y2), some (.int y3), some (.int y4), some (.int y5), some (.int y6), none], [])) rfl (tX9_widthOf (d + 1) n y6 I J 3 sp rr w nw (Or.inl rfl) o2115 eo2115) (fun v h hq => ?_)
          obtain ⟨rfl, rfl⟩ := hq
          refine mm_T.seg (f' := (82, [some (.ref 45), none, some (.int y2), some (.int y3), some (.int y4), some (.int y5), some (.int y6), some (.int o2115)], [(.int y3), (.int o2115)])) (h' := (107, I, J, mm_rf 3 sp rr w nw)) 4 rfl ?_
          refine mm_T.br (c := y3 < o2115) (a := ((100, [some (.ref 45), none, some (.int y2), some (.int y3), some (.int y4), some (.int y5), some (.int y6), some (.int o2115)], []), (107, I, J, mm_rf 3 sp rr w nw))) (b := ((85, [some (.ref 45), none, some (.int y2), some (.int y3), some (.int y4), some (.int y5), some (.int y6), some (.int o2115)], []), (107, I, J, mm_rf 3 sp rr w nw))) rfl (fun h2116 => ?_) (fun h2116 => ?_)
          · rw [if_pos h2116] at e
            refine mm_T.seg (f' := (46, [some (.ref 45), none, some (.int y2), some (.int y3), some (.int y4), some (.int y5), some (.int (y6 + 1)), some (.int o2115)], [])) (h' := (107, I, J, mm_rf 3 sp rr w nw)) 2 rfl ?_
            refine mm_T.mask [true, false, true, true, true, true, true, false] ?_
            exact ih y2 y3 y4 y5 (y6 + 1) I J 3 sp rr w nw (Or.inl rfl) out e k
          · rw [if_neg h2116] at e
            refine mm_T.seg (f' := (89, [some (.ref 45), none, some (.int y2), some (.int y3), some (.int y4), some (.int y5), some (.int y6), some (.int o2115)], [(.int y5), (.int o2115)])) (h' := (107, I, J, mm_rf 3 sp rr w nw)) 2 rfl ?_
            refine mm_T.br (c := y5 < o2115) (a := ((92, [some (.ref 45), none, some (.int y2), some (.int y3), some (.int y4), some (.int y5), some (.int y6), some (.int o2115)], []), (107, I, J, mm_rf 3 sp rr w nw))) (b := ((100, [some (.ref 45), none, some (.int y2), some (.int y3), some (.int y4), some (.int y5), some (.int y6), some (.int o2115)], []), (107, I, J, mm_rf 3 sp rr w nw))) rfl (fun h2117 => ?_) (fun h2117 => ?_)
            · rw [if_pos h2117] at e
              refine mm_T.seg (f' := (46, [some (.ref 45), none, some (.int y2), some (.int y3), some (.int y6), some (.int o2115), some (.int (y6 + 1)), some (.int o2115)], [])) (h' := (107, I, J, mm_rf 3 sp rr w nw)) 6 rfl ?_
              refine mm_T.mask [true, false, true, true, true, true, true, false] ?_
              exact ih y2 y3 y6 o2115 (y6 + 1) I J 3 sp rr w nw (Or.inl rfl) out e k
            · rw [if_neg h2117] at e
              refine mm_T.seg (f' := (46, [some (.ref 45), none, some (.int y2), some (.int y3), some (.int y4), some (.int y5), some (.int (y6 + 1)), some (.int o2115)], [])) (h' := (107, I, J, mm_rf 3 sp rr w nw)) 2 rfl ?_
              refine mm_T.mask [true, false, true, true, true, true, true, false] ?_
              exact ih y2 y3 y4 y5 (y6 + 1) I J 3 sp rr w nw (Or.inl rfl) out e k
        · rw [if_neg h2114] at e
          refine mm_T.seg (f' := (82, [some (.ref 45), none, some (.int y2), some (.int y3), some (.int y4), some (.int y5), some (.int y6), some (.int 0)], [(.int y3), (.int 0)])) (h' := (107, I, J, mm_rf 3 sp rr w nw)) 4 rfl ?_
          refine mm_T.br (c := y3 < 0) (a := ((100, [some (.ref 45), none, some (.int y2), some (.int y3), some (.int y4), some (.int y5), some (.int y6), some (.int 0)], []), (107, I, J, mm_rf 3 sp rr w nw))) (b := ((85, [some (.ref 45), none, some (.int y2), some (.int y3), some (.int y4), some (.int y5), some (.int y6), some (.int 0)], []), (107, I, J, mm_rf 3 sp rr w nw))) rfl (fun h2118 => ?_) (fun h2118 => ?_)
          · rw [if_pos h2118] at e
            refine mm_T.seg (f' := (46, [some (.ref 45), none, some (.int y2), some (.int y3), some (.int y4), some (.int y5), some (.int (y6 + 1)), some (.int 0)], [])) (h' := (107, I, J, mm_rf 3 sp rr w nw)) 2 rfl ?_
            refine mm_T.mask [true, false, true, true, true, true, true, false] ?_
            exact ih y2 y3 y4 y5 (y6 + 1) I J 3 sp rr w nw (Or.inl rfl) out e k
          · rw [if_neg h2118] at e
            refine mm_T.seg (f' := (89, [some (.ref 45), none, some (.int y2), some (.int y3), some (.int y4), some (.int y5), some (.int y6), some (.int 0)], [(.int y5), (.int 0)])) (h' := (107, I, J, mm_rf 3 sp rr w nw)) 2 rfl ?_
            refine mm_T.br (c := y5 < 0) (a := ((92, [some (.ref 45), none, some (.int y2), some (.int y3), some (.int y4), some (.int y5), some (.int y6), some (.int 0)], []), (107, I, J, mm_rf 3 sp rr w nw))) (b := ((100, [some (.ref 45), none, some (.int y2), some (.int y3), some (.int y4), some (.int y5), some (.int y6), some (.int 0)], []), (107, I, J, mm_rf 3 sp rr w nw))) rfl (fun h2119 => ?_) (fun h2119 => ?_)
            · rw [if_pos h2119] at e
              refine mm_T.seg (f' := (46, [some (.ref 45), none, some (.int y2), some (.int y3), some (.int y6), some (.int 0), some (.int (y6 + 1)), some (.int 0)], [])) (h' := (107, I, J, mm_rf 3 sp rr w nw)) 6 rfl ?_
              refine mm_T.mask [true, false, true, true, true, true, true, false] ?_
              exact ih y2 y3 y6 0 (y6 + 1) I J 3 sp rr w nw (Or.inl rfl) out e k
            · rw [if_neg h2119] at e
              refine mm_T.seg (f' := (46, [some (.ref 45), none, some (.int y2), some (.int y3), some (.int y4), some (.int y5), some (.int (y6 + 1)), some (.int 0)], [])) (h' := (107, I, J, mm_rf 3 sp rr w nw)) 2 rfl ?_
              refine mm_T.mask [true, false, true, true, true, true, true, false] ?_
              exact ih y2 y3 y4 y5 (y6 + 1) I J 3 sp rr w nw (Or.inl rfl) out e k
    · rw [fX9_widestSet_L46] at e
      refine mm_T.seg (f' := (52, [some (.ref 45), none, some (.int y2), some (.int y3), some (.int y4), some (.int y5), some (.int y6), none], [(.ref 18), (.int y6)])) (h' := (107, I, J, mm_rf 19 sp rr w nw)) 3 rfl ?_
      obtain ⟨g354, hg354⟩ : ∃ z, fX7_allLoads I 19 = z := ⟨_, rfl⟩
      try rw [hg354] at e
      refine mm_T.call (t := 115) (as := [(.ref 18)]) (f' := (55, [some (.ref 45), none, some (.int y2), some (.int y3), some (.int y4), some (.int y5), some (.int y6), none], [(.int y6)])) rfl (tX7_allLoads (d + 3) I J 19 sp rr w nw (Or.inr rfl) g354 hg354) (fun v h hq => ?_)
      obtain ⟨rfl, rfl⟩ := hq
      refine mm_T.br (c := g354 < y6) (a := ((106, [some (.ref 45), none, some (.int y2), some (.int y3), some (.int y4), some (.int y5), some (.int y6), none], []), (107, I, J, mm_rf 19 sp rr w nw))) (b := ((58, [some (.ref 45), none, some (.int y2), some (.int y3), some (.int y4), some (.int y5), some (.int y6), none], []), (107, I, J, mm_rf 19 sp rr w nw))) rfl (fun h2113 => ?_) (fun h2113 => ?_)
      · rw [if_pos h2113] at e
        cases e
        refine mm_T.mask [false, false, false, false, true, false, false, false] ?_
        exact k
      · rw [if_neg h2113] at e
        refine mm_T.seg (f' := (64, [some (.ref 45), none, some (.int y2), some (.int y3), some (.int y4), some (.int y5), some (.int y6), none], [(.int (y6 &&& (y2 ^^^ (-1))))])) (h' := (107, I, J, mm_rf 19 sp rr w nw)) 5 rfl ?_
        refine mm_T.br (c := (y6 &&& (y2 ^^^ (-1))) = 0) (a := ((67, [some (.ref 45), none, some (.int y2), some (.int y3), some (.int y4), some (.int y5), some (.int y6), none], []), (107, I, J, mm_rf 19 sp rr w nw))) (b := ((76, [some (.ref 45), none, some (.int y2), some (.int y3), some (.int y4), some (.int y5), some (.int y6), none], []), (107, I, J, mm_rf 19 sp rr w nw))) rfl (fun h2114 => ?_) (fun h2114 => ?_)
        · rw [if_pos h2114] at e
          refine mm_T.seg (f' := (70, [some (.ref 45), none, some (.int y2), some (.int y3), some (.int y4), some (.int y5), some (.int y6), none], [(.int y6), (.ref 45)])) (h' := (107, I, J, mm_rf 19 sp rr w nw)) 2 rfl ?_
          obtain ⟨o2115, eo2115, e⟩ := mm_bind e
          refine mm_T.call (t := 131) (as := [(.ref 45), (.int y6)]) (f' := (73, [some (.ref 45), none, some (.int y2), some (.int y3), some (.int y4), some (.int y5), some (.int y6), none], [])) rfl (tX9_widthOf (d + 1) n y6 I J 19 sp rr w nw (Or.inr rfl) o2115 eo2115) (fun v h hq => ?_)
          obtain ⟨rfl, rfl⟩ := hq
          refine mm_T.seg (f' := (82, [some (.ref 45), none, some (.int y2), some (.int y3), some (.int y4), some (.int y5), some (.int y6), some (.int o2115)], [(.int y3), (.int o2115)])) (h' := (107, I, J, mm_rf 19 sp rr w nw)) 4 rfl ?_
          refine mm_T.br (c := y3 < o2115) (a := ((100, [some (.ref 45), none, some (.int y2), some (.int y3), some (.int y4), some (.int y5), some (.int y6), some (.int o2115)], []), (107, I, J, mm_rf 19 sp rr w nw))) (b := ((85, [some (.ref 45), none, some (.int y2), some (.int y3), some (.int y4), some (.int y5), some (.int y6), some (.int o2115)], []), (107, I, J, mm_rf 19 sp rr w nw))) rfl (fun h2116 => ?_) (fun h2116 => ?_)
          · rw [if_pos h2116] at e
            refine mm_T.seg (f' := (46, [some (.ref 45), none, some (.int y2), some (.int y3), some (.int y4), some (.int y5), some (.int (y6 + 1)), some (.int o2115)], [])) (h' := (107, I, J, mm_rf 19 sp rr w nw)) 2 rfl ?_
            refine mm_T.mask [true, false, true, true, true, true, true, false] ?_
            exact ih y2 y3 y4 y5 (y6 + 1) I J 19 sp rr w nw (Or.inr rfl) out e k
          · rw [if_neg h2116] at e
            refine mm_T.seg (f' := (89, [some (.ref 45), none, some (.int y2), some (.int y3), some (.int y4), some (.int y5), some (.int y6), some (.int o2115)], [(.int y5), (.int o2115)])) (h' := (107, I, J, mm_rf 19 sp rr w nw)) 2 rfl ?_
            refine mm_T.br (c := y5 < o2115) (a := ((92, [some (.ref 45), none, some (.int y2), some (.int y3), some (.int y4), some (.int y5), some (.int y6), some (.int o2115)], []), (107, I, J, mm_rf 19 sp rr w nw))) (b := ((100, [some (.ref 45), none, some (.int y2), some (.int y3), some (.int y4), some (.int y5), some (.int y6), some (.int o2115)], []), (107, I, J, mm_rf 19 sp rr w nw))) rfl (fun h2117 => ?_) (fun h2117 => ?_)
            · rw [if_pos h2117] at e
              refine mm_T.seg (f' := (46, [some (.ref 45), none, some (.int y2), some (.int y3), some (.int y6), some (.int o2115), some (.int (y6 + 1)), some (.int o2115)], [])) (h' := (107, I, J, mm_rf 19 sp rr w nw)) 6 rfl ?_
              refine mm_T.mask [true, false, true, true, true, true, true, false] ?_
              exact ih y2 y3 y6 o2115 (y6 + 1) I J 19 sp rr w nw (Or.inr rfl) out e k
            · rw [if_neg h2117] at e
              refine mm_T.seg (f' := (46, [some (.ref 45), none, some (.int y2), some (.int y3), some (.int y4), some (.int y5), some (.int (y6 + 1)), some (.int o2115)], [])) (h' := (107, I, J, mm_rf 19 sp rr w nw)) 2 rfl ?_
              refine mm_T.mask [true, false, true, true, true, true, true, false] ?_
              exact ih y2 y3 y4 y5 (y6 + 1) I J 19 sp rr w nw (Or.inr rfl) out e k
        · rw [if_neg h2114] at e
          refine mm_T.seg (f' := (82, [some (.ref 45), none, some (.int y2), some (.int y3), some (.int y4), some (.int y5), some (.int y6), some (.int 0)], [(.int y3), (.int 0)])) (h' := (107, I, J, mm_rf 19 sp rr w nw)) 4 rfl ?_
          refine mm_T.br (c := y3 < 0) (a := ((100, [some (.ref 45), none, some (.int y2), some (.int y3), some (.int y4), some (.int y5), some (.int y6), some (.int 0)], []), (107, I, J, mm_rf 19 sp rr w nw))) (b := ((85, [some (.ref 45), none, some (.int y2), some (.int y3), some (.int y4), some (.int y5), some (.int y6), some (.int 0)], []), (107, I, J, mm_rf 19 sp rr w nw))) rfl (fun h2118 => ?_) (fun h2118 => ?_)
          · rw [if_pos h2118] at e
            refine mm_T.seg (f' := (46, [some (.ref 45), none, some (.int y2), some (.int y3), some (.int y4), some (.int y5), some (.int (y6 + 1)), some (.int 0)], [])) (h' := (107, I, J, mm_rf 19 sp rr w nw)) 2 rfl ?_
            refine mm_T.mask [true, false, true, true, true, true, true, false] ?_
            exact ih y2 y3 y4 y5 (y6 + 1) I J 19 sp rr w nw (Or.inr rfl) out e k
          · rw [if_neg h2118] at e
            refine mm_T.seg (f' := (89, [some (.ref 45), none, some (.int y2), some (.int y3), some (.int y4), some (.int y5), some (.int y6), some (.int 0)], [(.int y5), (.int 0)])) (h' := (107, I, J, mm_rf 19 sp rr w nw)) 2 rfl ?_
            refine mm_T.br (c := y5 < 0) (a := ((92, [some (.ref 45), none, some (.int y2), some (.int y3), some (.int y4), some (.int y5), some (.int y6), some (.int 0)], []), (107, I, J, mm_rf 19 sp rr w nw))) (b := ((100, [some (.ref 45), none, some (.int y2), some (.int y3), some (.int y4), some (.int y5), some (.int y6), some (.int 0)], []), (107, I, J, mm_rf 19 sp rr w nw))) rfl (fun h2119 => ?_) (fun h2119 => ?_)
            · rw [if_pos h2119] at e
              refine mm_T.seg (f' := (46, [some (.ref 45), none, some (.int y2), some (.int y3), some (.int y6), some (.int 0), some (.int (y6 + 1)), some (.int 0)], [])) (h' := (107, I, J, mm_rf 19 sp rr w nw)) 6 rfl ?_
              refine mm_T.mask [true, false, true, true, true, true, true, false] ?_
              exact ih y2 y3 y6 0 (y6 + 1) I J 19 sp rr w nw (Or.inr rfl) out e k
            · rw [if_neg h2119] at e
              refine mm_T.seg (f' := (46, [some (.ref 45), none, some (.int y2), some (.int y3), some (.int y4), some (.int y5), some (.int (y6 + 1)), some (.int 0)], [])) (h' := (107, I, J, mm_rf 19 sp rr w nw)) 2 rfl ?_
              refine mm_T.mask [true, false, true, true, true, true, true, false] ?_
              exact ih y2 y3 y4 y5 (y6 + 1) I J 19 sp rr w nw (Or.inr rfl) out e k
set_option maxRecDepth 100000 in
set_option maxHeartbeats 4000000 in
theorem tX9_widestSet (d n : Nat) (x1 : Int32) (I : Nat → Nat → Int32) (J : Nat → Nat → Int64) (rv sp rr w nw : Nat) (hrv : rv = 3 ∨ rv = 19) (out : Int32) (e : fX9_widestSet n x1 I rv = some out) : mm_T none (d + 4) 132 (mm_ent 132 [(.ref 45), (.int x1)]) (107, I, J, mm_rf rv sp rr w nw) (fun v h => v = some (.int out) ∧ h = (107, I, J, mm_rf rv sp rr w nw)) := by
  rcases hrv with rfl | rfl
  · unfold fX9_widestSet at e
    refine mm_T.seg (f' := (4, [some (.ref 45), some (.int x1), none, none, none, none, none, none], [(.ref 18)])) (h' := (107, I, J, mm_rf 3 sp rr w nw)) 2 rfl ?_
    refine mm_T.seg (f' := (8, [some (.ref 45), some (.int x1), none, none, none, none, none, none], [(.ref 18), (.ref 18)])) (h' := (107, I, J, mm_rf 3 sp rr w nw)) 2 rfl ?_
    refine mm_T.seg (f' := (9, [some (.ref 45), some (.int x1), none, none, none, none, none, none], [(.int x1), (.ref 18), (.ref 18)])) (h' := (107, I, J, mm_rf 3 sp rr w nw)) 1 rfl ?_
    obtain ⟨g351, hg351⟩ : ∃ z, fX7_bankOf x1 I = z := ⟨_, rfl⟩
    try rw [hg351] at e
    refine mm_T.call (t := 120) (as := [(.ref 18), (.int x1)]) (f' := (12, [some (.ref 45), some (.int x1), none, none, none, none, none, none], [(.ref 18)])) rfl (tX7_bankOf (d + 0) x1 I J 3 sp rr w nw g351 hg351) (fun v h hq => ?_)
    obtain ⟨rfl, rfl⟩ := hq
    obtain ⟨o2104, eo2104, e⟩ := mm_bind e
    refine mm_T.call (t := 116) (as := [(.ref 18), (.int g351)]) (f' := (15, [some (.ref 45), some (.int x1), none, none, none, none, none, none], [])) rfl (tX7_loadsAt (d + 1) n g351 I J 3 sp rr w nw (Or.inl rfl) o2104 eo2104) (fun v h hq => ?_)
    obtain ⟨rfl, rfl⟩ := hq
    refine mm_T.seg (f' := (20, [some (.ref 45), some (.int x1), some (.int o2104), none, none, none, none, none], [(.ref 18)])) (h' := (107, I, J, mm_rf 3 sp rr w nw)) 3 rfl ?_
    refine mm_T.seg (f' := (24, [some (.ref 45), some (.int x1), some (.int o2104), none, none, none, none, none], [(.int x1), (.ref 3)])) (h' := (107, I, J, mm_rf 3 sp rr w nw)) 2 rfl ?_
    obtain ⟨g352, hg352⟩ : ∃ z, fX5_wideOf x1 3 I = z := ⟨_, rfl⟩
    try rw [hg352] at e
    refine mm_T.call (t := 77) (as := [(.ref 3), (.int x1)]) (f' := (27, [some (.ref 45), some (.int x1), some (.int o2104), none, none, none, none, none], [])) rfl (tX5_wideOf (d + 2) x1 3 I J 3 sp rr w nw (Or.inl rfl) g352 hg352) (fun v h hq => ?_)
    obtain ⟨rfl, rfl⟩ := hq
    refine mm_T.seg (f' := (31, [some (.ref 45), some (.int x1), some (.int o2104), none, none, none, none, none], [(.ref 18), (.int g352)])) (h' := (107, I, J, mm_rf 3 sp rr w nw)) 2 rfl ?_
    refine mm_T.seg (f' := (32, [some (.ref 45), some (.int x1), some (.int o2104), none, none, none, none, none], [(.int x1), (.ref 18), (.int g352)])) (h' := (107, I, J, mm_rf 3 sp rr w nw)) 1 rfl ?_
    obtain ⟨o2105, eo2105, e⟩ := mm_bind e
    refine mm_T.call (t := 118) (as := [(.ref 18), (.int x1)]) (f' := (35, [some (.ref 45), some (.int x1), some (.int o2104), none, none, none, none, none], [(.int g352)])) rfl (tX7_burdenOf (d + 1) n x1 I J 3 sp rr w nw (Or.inl rfl) o2105 eo2105) (fun v h hq => ?_)
    obtain ⟨rfl, rfl⟩ := hq
    refine mm_T.seg (f' := (46, [some (.ref 45), some (.int x1), some (.int o2104), some (.int (g352 - o2105)), some (.int 0), some (.int 0), some (.int 1), none], [])) (h' := (107, I, J, mm_rf 3 sp rr w nw)) 8 rfl ?_
    refine mm_T.mask [true, false, true, true, true, true, true, false] ?_
    obtain ⟨o2120, eo2120, e⟩ := mm_bind e
    refine tlX9_widestSet_L46 d _ n o2104 (g352 - o2105) 0 0 1 I J 3 sp rr w nw (Or.inl rfl) o2120 eo2120 ?_
    refine mm_T.seg (f' := (108, [none, none, none, none, some (.int o2120), none, none, none], [(.int o2120)])) (h' := (107, I, J, mm_rf 3 sp rr w nw)) 1 rfl ?_
    cases e
    exact mm_T.ret rfl ⟨rfl, rfl⟩
  · unfold fX9_widestSet at e
    refine mm_T.seg (f' := (4, [some (.ref 45), some (.int x1), none, none, none, none, none, none], [(.ref 18)])) (h' := (107, I, J, mm_rf 19 sp rr w nw)) 2 rfl ?_
    refine mm_T.seg (f' := (8, [some (.ref 45), some (.int x1), none, none, none, none, none, none], [(.ref 18), (.ref 18)])) (h' := (107, I, J, mm_rf 19 sp rr w nw)) 2 rfl ?_
    refine mm_T.seg (f' := (9, [some (.ref 45), some (.int x1), none, none, none, none, none, none], [(.int x1), (.ref 18), (.ref 18)])) (h' := (107, I, J, mm_rf 19 sp rr w nw)) 1 rfl ?_
    obtain ⟨g351, hg351⟩ : ∃ z, fX7_bankOf x1 I = z := ⟨_, rfl⟩
    try rw [hg351] at e
    refine mm_T.call (t := 120) (as := [(.ref 18), (.int x1)]) (f' := (12, [some (.ref 45), some (.int x1), none, none, none, none, none, none], [(.ref 18)])) rfl (tX7_bankOf (d + 0) x1 I J 19 sp rr w nw g351 hg351) (fun v h hq => ?_)
    obtain ⟨rfl, rfl⟩ := hq
    obtain ⟨o2104, eo2104, e⟩ := mm_bind e
    refine mm_T.call (t := 116) (as := [(.ref 18), (.int g351)]) (f' := (15, [some (.ref 45), some (.int x1), none, none, none, none, none, none], [])) rfl (tX7_loadsAt (d + 1) n g351 I J 19 sp rr w nw (Or.inr rfl) o2104 eo2104) (fun v h hq => ?_)
    obtain ⟨rfl, rfl⟩ := hq
    refine mm_T.seg (f' := (20, [some (.ref 45), some (.int x1), some (.int o2104), none, none, none, none, none], [(.ref 18)])) (h' := (107, I, J, mm_rf 19 sp rr w nw)) 3 rfl ?_
    refine mm_T.seg (f' := (24, [some (.ref 45), some (.int x1), some (.int o2104), none, none, none, none, none], [(.int x1), (.ref 19)])) (h' := (107, I, J, mm_rf 19 sp rr w nw)) 2 rfl ?_
    obtain ⟨g352, hg352⟩ : ∃ z, fX5_wideOf x1 19 I = z := ⟨_, rfl⟩
    try rw [hg352] at e
    refine mm_T.call (t := 77) (as := [(.ref 19), (.int x1)]) (f' := (27, [some (.ref 45), some (.int x1), some (.int o2104), none, none, none, none, none], [])) rfl (tX5_wideOf (d + 2) x1 19 I J 19 sp rr w nw (Or.inr rfl) g352 hg352) (fun v h hq => ?_)
    obtain ⟨rfl, rfl⟩ := hq
    refine mm_T.seg (f' := (31, [some (.ref 45), some (.int x1), some (.int o2104), none, none, none, none, none], [(.ref 18), (.int g352)])) (h' := (107, I, J, mm_rf 19 sp rr w nw)) 2 rfl ?_
    refine mm_T.seg (f' := (32, [some (.ref 45), some (.int x1), some (.int o2104), none, none, none, none, none], [(.int x1), (.ref 18), (.int g352)])) (h' := (107, I, J, mm_rf 19 sp rr w nw)) 1 rfl ?_
    obtain ⟨o2105, eo2105, e⟩ := mm_bind e
    refine mm_T.call (t := 118) (as := [(.ref 18), (.int x1)]) (f' := (35, [some (.ref 45), some (.int x1), some (.int o2104), none, none, none, none, none], [(.int g352)])) rfl (tX7_burdenOf (d + 1) n x1 I J 19 sp rr w nw (Or.inr rfl) o2105 eo2105) (fun v h hq => ?_)
    obtain ⟨rfl, rfl⟩ := hq
    refine mm_T.seg (f' := (46, [some (.ref 45), some (.int x1), some (.int o2104), some (.int (g352 - o2105)), some (.int 0), some (.int 0), some (.int 1), none], [])) (h' := (107, I, J, mm_rf 19 sp rr w nw)) 8 rfl ?_
    refine mm_T.mask [true, false, true, true, true, true, true, false] ?_
    obtain ⟨o2120, eo2120, e⟩ := mm_bind e
    refine tlX9_widestSet_L46 d _ n o2104 (g352 - o2105) 0 0 1 I J 19 sp rr w nw (Or.inr rfl) o2120 eo2120 ?_
    refine mm_T.seg (f' := (108, [none, none, none, none, some (.int o2120), none, none, none], [(.int o2120)])) (h' := (107, I, J, mm_rf 19 sp rr w nw)) 1 rfl ?_
    cases e
    exact mm_T.ret rfl ⟨rfl, rfl⟩
set_option maxRecDepth 100000 in
set_option maxHeartbeats 4000000 in
theorem tlX9_hasRoomFor_L2 (d : Nat) (Q : Option Value → mm_H → Prop) : ∀ (n : Nat) (y1 : Int32) (y2 : Int32) (I : Nat → Nat → Int32) (J : Nat → Nat → Int64) (rv sp rr w nw : Nat), ∀ (out : (Int32 ⊕ (Unit))), fX9_hasRoomFor_L2 n y1 y2 I = some out → (∀ (r : Int32), out = .inl r → Q (some (.int r)) (107, I, J, mm_rf rv sp rr w nw)) → (∀ (y : Unit), out = .inr y → mm_T none (d + 1) 136 (30, [none, none, none], []) (107, I, J, mm_rf rv sp rr w nw) Q) → mm_T none (d + 1) 136 (2, [some (.ref 45), some (.int y1), some (.int y2)], []) (107, I, J, mm_rf rv sp rr w nw) Q := by
  intro n
  induction n with
  | zero =>
    intro y1 y2 I J rv sp rr w nw out e kr ke
    rw [fX9_hasRoomFor_L2] at e; cases e
  | succ n ih =>
    intro y1 y2 I J rv sp rr w nw out e kr ke
    rw [fX9_hasRoomFor_L2] at e
    refine mm_T.seg (f' := (7, [some (.ref 45), some (.int y1), some (.int y2)], [(.int (I 45 4)), (.int y2)])) (h' := (107, I, J, mm_rf rv sp rr w nw)) 3 rfl ?_
    refine mm_T.br (c := y2 < (I 45 4)) (a := ((10, [some (.ref 45), some (.int y1), some (.int y2)], []), (107, I, J, mm_rf rv sp rr w nw))) (b := ((30, [some (.ref 45), some (.int y1), some (.int y2)], []), (107, I, J, mm_rf rv sp rr w nw))) rfl (fun h2125 => ?_) (fun h2125 => ?_)
    · rw [if_pos h2125] at e
      refine mm_T.seg (f' := (15, [some (.ref 45), some (.int y1), some (.int y2)], [(.ref 46), (.int y1)])) (h' := (107, I, J, mm_rf rv sp rr w nw)) 3 rfl ?_
      refine mm_T.seg (f' := (16, [some (.ref 45), some (.int y1), some (.int y2)], [(.int y2), (.ref 46), (.int y1)])) (h' := (107, I, J, mm_rf rv sp rr w nw)) 1 rfl ?_
      refine mm_T.call (t := 204) (as := [(.ref 46), (.int y2)]) (f' := (19, [some (.ref 45), some (.int y1), some (.int y2)], [(.int y1)])) rfl (t_pick _ 46 7 y2 I J (mm_rf rv sp rr w nw) rfl rfl) (fun v h hq => ?_)
      obtain ⟨rfl, rfl⟩ := hq
      refine mm_T.br (c := (mf_pick I 46 7 y2) < y1) (a := ((24, [some (.ref 45), some (.int y1), some (.int y2)], []), (107, I, J, mm_rf rv sp rr w nw))) (b := ((22, [some (.ref 45), some (.int y1), some (.int y2)], []), (107, I, J, mm_rf rv sp rr w nw))) rfl (fun h2126 => ?_) (fun h2126 => ?_)
      · rw [if_pos h2126] at e
        refine mm_T.seg (f' := (2, [some (.ref 45), some (.int y1), some (.int (y2 + 1))], [])) (h' := (107, I, J, mm_rf rv sp rr w nw)) 2 rfl ?_
        refine mm_T.mask [true, true, true] ?_
        exact ih y1 (y2 + 1) I J rv sp rr w nw out e kr ke
      · rw [if_neg h2126] at e
        refine mm_T.seg (f' := (23, [some (.ref 45), some (.int y1), some (.int y2)], [(.int 1)])) (h' := (107, I, J, mm_rf rv sp rr w nw)) 1 rfl ?_
        cases e
        exact mm_T.ret rfl (kr _ rfl)
    · rw [if_neg h2125] at e
      cases e
      refine mm_T.mask [false, false, false] ?_
      exact ke _ rfl
set_option maxRecDepth 100000 in
set_option maxHeartbeats 4000000 in
theorem tX9_hasRoomFor (d n : Nat) (x1 : Int32) (I : Nat → Nat → Int32) (J : Nat → Nat → Int64) (rv sp rr w nw : Nat) (out : Int32) (e : fX9_hasRoomFor n x1 I = some out) : mm_T none (d + 1) 136 (mm_ent 136 [(.ref 45), (.int x1)]) (107, I, J, mm_rf rv sp rr w nw) (fun v h => v = some (.int out) ∧ h = (107, I, J, mm_rf rv sp rr w nw)) := by
  unfold fX9_hasRoomFor at e
  refine mm_T.seg (f' := (2, [some (.ref 45), some (.int x1), some (.int 0)], [])) (h' := (107, I, J, mm_rf rv sp rr w nw)) 2 rfl ?_
  refine mm_T.mask [true, true, true] ?_
  obtain ⟨o2127, eo2127, e⟩ := mm_bind e
  rcases o2127 with va2128 | vb2128
  · cases e
    refine tlX9_hasRoomFor_L2 d _ n x1 0 I J rv sp rr w nw _ eo2127 (fun z hz => ?_) (fun z hz => ?_)
    · cases hz; exact ⟨rfl, rfl⟩
    · cases hz
  · refine tlX9_hasRoomFor_L2 d _ n x1 0 I J rv sp rr w nw (.inr vb2128) eo2127 (fun z hz => ?_) (fun z hz => ?_)
    · cases hz
    · cases hz
      refine mm_T.seg (f' := (31, [none, none, none], [(.int 0)])) (h' := (107, I, J, mm_rf rv sp rr w nw)) 1 rfl ?_
      cases e
      exact mm_T.ret rfl ⟨rfl, rfl⟩
set_option maxRecDepth 100000 in
set_option maxHeartbeats 4000000 in
theorem tX9_placeIn (d n : Nat) (rec : Int32 → Int32 → (Nat → Nat → Int32) → Nat → Option ((Nat → Nat → Int32))) (hrec : ∀ (x1 : Int32) (x2 : Int32) (I : Nat → Nat → Int32) (J : Nat → Nat → Int64) (rv sp rr w nw : Nat), (rv = 3 ∨ rv = 19) → ∀ (out : (Nat → Nat → Int32)), rec x1 x2 I rv = some out → mm_T none d 137 (mm_ent 137 [(.ref 45), (.int x1), (.int x2)]) (107, I, J, mm_rf rv sp rr w nw) (fun v h => v = none ∧ h = (107, out, J, mm_rf rv sp rr w nw))) (x1 : Int32) (x2 : Int32) (x3 : Int32) (I : Nat → Nat → Int32) (J : Nat → Nat → Int64) (rv sp rr w nw : Nat) (hrv : rv = 3 ∨ rv = 19) (out : (Nat → Nat → Int32)) (e : fX9_placeIn n rec x1 x2 x3 I rv = some out) : mm_T none (d + 2) 138 (mm_ent 138 [(.ref 45), (.int x1), (.int x2), (.int x3)]) (107, I, J, mm_rf rv sp rr w nw) (fun v h => v = none ∧ h = (107, out, J, mm_rf rv sp rr w nw)) := by
  rcases hrv with rfl | rfl
  · unfold fX9_placeIn at e
    refine mm_T.seg (f' := (4, [some (.ref 45), some (.int x1), some (.int x2), some (.int x3), none], [(.ref 18)])) (h' := (107, I, J, mm_rf 3 sp rr w nw)) 2 rfl ?_
    refine mm_T.seg (f' := (8, [some (.ref 45), some (.int x1), some (.int x2), some (.int x3), none], [(.int x2), (.ref 3)])) (h' := (107, I, J, mm_rf 3 sp rr w nw)) 2 rfl ?_
    obtain ⟨g362, hg362⟩ : ∃ z, fX5_loadWide x2 3 I = z := ⟨_, rfl⟩
    try rw [hg362] at e
    refine mm_T.call (t := 80) (as := [(.ref 3), (.int x2)]) (f' := (11, [some (.ref 45), some (.int x1), some (.int x2), some (.int x3), none], [])) rfl (tX5_loadWide (d + 0) x2 3 I J 3 sp rr w nw (Or.inl rfl) g362 hg362) (fun v h hq => ?_)
    obtain ⟨rfl, rfl⟩ := hq
    refine mm_T.seg (f' := (17, [some (.ref 45), some (.int x1), some (.int x2), some (.int x3), some (.int g362)], [(.ref 48)])) (h' := (107, I, J, mm_rf 3 sp rr w nw)) 3 rfl ?_
    refine mm_T.seg (f' := (19, [some (.ref 45), some (.int x1), some (.int x2), some (.int x3), some (.int g362)], [(.int x1), (.int x2), (.ref 48)])) (h' := (107, I, J, mm_rf 3 sp rr w nw)) 2 rfl ?_
    refine mm_T.call (t := 205) (as := [(.ref 48), (.int x2), (.int x1)]) (f' := (22, [some (.ref 45), some (.int x1), some (.int x2), some (.int x3), some (.int g362)], [])) rfl (t_put _ 48 7 x2 x1 I J (mm_rf 3 sp rr w nw) rfl rfl) (fun v h hq => ?_)
    obtain ⟨rfl, rfl⟩ := hq
    refine mm_T.seg (f' := (26, [some (.ref 45), some (.int x1), some (.int x2), some (.int x3), some (.int g362)], [(.ref 47)])) (h' := (107, (mf_put I 48 7 x2 x1), J, mm_rf 3 sp rr w nw)) 2 rfl ?_
    refine mm_T.seg (f' := (31, [some (.ref 45), some (.int x1), some (.int x2), some (.int x3), some (.int g362)], [(.ref 47), (.int x1), (.ref 47)])) (h' := (107, (mf_put I 48 7 x2 x1), J, mm_rf 3 sp rr w nw)) 3 rfl ?_
    refine mm_T.seg (f' := (32, [some (.ref 45), some (.int x1), some (.int x2), some (.int x3), some (.int g362)], [(.int x1), (.ref 47), (.int x1), (.ref 47)])) (h' := (107, (mf_put I 48 7 x2 x1), J, mm_rf 3 sp rr w nw)) 1 rfl ?_
    refine mm_T.call (t := 204) (as := [(.ref 47), (.int x1)]) (f' := (35, [some (.ref 45), some (.int x1), some (.int x2), some (.int x3), some (.int g362)], [(.int x1), (.ref 47)])) rfl (t_pick _ 47 7 x1 (mf_put I 48 7 x2 x1) J (mm_rf 3 sp rr w nw) rfl rfl) (fun v h hq => ?_)
    obtain ⟨rfl, rfl⟩ := hq
    refine mm_T.seg (f' := (37, [some (.ref 45), some (.int x1), some (.int x2), some (.int x3), some (.int g362)], [(.int ((mf_pick (mf_put I 48 7 x2 x1) 47 7 x1) + 1)), (.int x1), (.ref 47)])) (h' := (107, (mf_put I 48 7 x2 x1), J, mm_rf 3 sp rr w nw)) 2 rfl ?_
    refine mm_T.call (t := 205) (as := [(.ref 47), (.int x1), (.int ((mf_pick (mf_put I 48 7 x2 x1) 47 7 x1) + 1))]) (f' := (40, [some (.ref 45), some (.int x1), some (.int x2), some (.int x3), some (.int g362)], [])) rfl (t_put _ 47 7 x1 ((mf_pick (mf_put I 48 7 x2 x1) 47 7 x1) + 1) (mf_put I 48 7 x2 x1) J (mm_rf 3 sp rr w nw) rfl rfl) (fun v h hq => ?_)
    obtain ⟨rfl, rfl⟩ := hq
    refine mm_T.seg (f' := (44, [some (.ref 45), some (.int x1), some (.int x2), some (.int x3), some (.int g362)], [(.ref 46)])) (h' := (107, (mf_put (mf_put I 48 7 x2 x1) 47 7 x1 ((mf_pick (mf_put I 48 7 x2 x1) 47 7 x1) + 1)), J, mm_rf 3 sp rr w nw)) 2 rfl ?_
    refine mm_T.seg (f' := (49, [some (.ref 45), some (.int x1), some (.int x2), some (.int x3), some (.int g362)], [(.ref 46), (.int x1), (.ref 46)])) (h' := (107, (mf_put (mf_put I 48 7 x2 x1) 47 7 x1 ((mf_pick (mf_put I 48 7 x2 x1) 47 7 x1) + 1)), J, mm_rf 3 sp rr w nw)) 3 rfl ?_
    refine mm_T.seg (f' := (50, [some (.ref 45), some (.int x1), some (.int x2), some (.int x3), some (.int g362)], [(.int x1), (.ref 46), (.int x1), (.ref 46)])) (h' := (107, (mf_put (mf_put I 48 7 x2 x1) 47 7 x1 ((mf_pick (mf_put I 48 7 x2 x1) 47 7 x1) + 1)), J, mm_rf 3 sp rr w nw)) 1 rfl ?_
    refine mm_T.call (t := 204) (as := [(.ref 46), (.int x1)]) (f' := (53, [some (.ref 45), some (.int x1), some (.int x2), some (.int x3), some (.int g362)], [(.int x1), (.ref 46)])) rfl (t_pick _ 46 7 x1 (mf_put (mf_put I 48 7 x2 x1) 47 7 x1 ((mf_pick (mf_put I 48 7 x2 x1) 47 7 x1) + 1)) J (mm_rf 3 sp rr w nw) rfl rfl) (fun v h hq => ?_)
    obtain ⟨rfl, rfl⟩ := hq
    refine mm_T.seg (f' := (56, [some (.ref 45), some (.int x1), some (.int x2), some (.int x3), some (.int g362)], [(.int ((mf_pick (mf_put (mf_put I 48 7 x2 x1) 47 7 x1 ((mf_pick (mf_put I 48 7 x2 x1) 47 7 x1) + 1)) 46 7 x1) - g362)), (.int x1), (.ref 46)])) (h' := (107, (mf_put (mf_put I 48 7 x2 x1) 47 7 x1 ((mf_pick (mf_put I 48 7 x2 x1) 47 7 x1) + 1)), J, mm_rf 3 sp rr w nw)) 2 rfl ?_
    refine mm_T.call (t := 205) (as := [(.ref 46), (.int x1), (.int ((mf_pick (mf_put (mf_put I 48 7 x2 x1) 47 7 x1 ((mf_pick (mf_put I 48 7 x2 x1) 47 7 x1) + 1)) 46 7 x1) - g362))]) (f' := (59, [some (.ref 45), some (.int x1), some (.int x2), some (.int x3), some (.int g362)], [])) rfl (t_put _ 46 7 x1 ((mf_pick (mf_put (mf_put I 48 7 x2 x1) 47 7 x1 ((mf_pick (mf_put I 48 7 x2 x1) 47 7 x1) + 1)) 46 7 x1) - g362) (mf_put (mf_put I 48 7 x2 x1) 47 7 x1 ((mf_pick (mf_put I 48 7 x2 x1) 47 7 x1) + 1)) J (mm_rf 3 sp rr w nw) rfl rfl) (fun v h hq => ?_)
    obtain ⟨rfl, rfl⟩ := hq
    refine mm_T.seg (f' := (64, [some (.ref 45), some (.int x1), some (.int x2), some (.int x3), some (.int g362)], [(.int x3), (.int (x2 + 1)), (.ref 45)])) (h' := (107, (mf_put (mf_put (mf_put I 48 7 x2 x1) 47 7 x1 ((mf_pick (mf_put I 48 7 x2 x1) 47 7 x1) + 1)) 46 7 x1 ((mf_pick (mf_put (mf_put I 48 7 x2 x1) 47 7 x1 ((mf_pick (mf_put I 48 7 x2 x1) 47 7 x1) + 1)) 46 7 x1) - g362)), J, mm_rf 3 sp rr w nw)) 5 rfl ?_
    obtain ⟨o2144, eo2144, e⟩ := mm_bind e
    refine mm_T.call (t := 137) (as := [(.ref 45), (.int (x2 + 1)), (.int x3)]) (f' := (67, [some (.ref 45), some (.int x1), some (.int x2), some (.int x3), some (.int g362)], [])) rfl (mm_T.deep (hrec (x2 + 1) x3 (mf_put (mf_put (mf_put I 48 7 x2 x1) 47 7 x1 ((mf_pick (mf_put I 48 7 x2 x1) 47 7 x1) + 1)) 46 7 x1 ((mf_pick (mf_put (mf_put I 48 7 x2 x1) 47 7 x1 ((mf_pick (mf_put I 48 7 x2 x1) 47 7 x1) + 1)) 46 7 x1) - g362)) J 3 sp rr w nw (Or.inl rfl) o2144 eo2144) (by omega)) (fun v h hq => ?_)
    obtain ⟨rfl, rfl⟩ := hq
    refine mm_T.seg (f' := (71, [some (.ref 45), some (.int x1), some (.int x2), some (.int x3), some (.int g362)], [(.ref 46)])) (h' := (107, o2144, J, mm_rf 3 sp rr w nw)) 2 rfl ?_
    refine mm_T.seg (f' := (76, [some (.ref 45), some (.int x1), some (.int x2), some (.int x3), some (.int g362)], [(.ref 46), (.int x1), (.ref 46)])) (h' := (107, o2144, J, mm_rf 3 sp rr w nw)) 3 rfl ?_
    refine mm_T.seg (f' := (77, [some (.ref 45), some (.int x1), some (.int x2), some (.int x3), some (.int g362)], [(.int x1), (.ref 46), (.int x1), (.ref 46)])) (h' := (107, o2144, J, mm_rf 3 sp rr w nw)) 1 rfl ?_
    refine mm_T.call (t := 204) (as := [(.ref 46), (.int x1)]) (f' := (80, [some (.ref 45), some (.int x1), some (.int x2), some (.int x3), some (.int g362)], [(.int x1), (.ref 46)])) rfl (t_pick _ 46 7 x1 o2144 J (mm_rf 3 sp rr w nw) rfl rfl) (fun v h hq => ?_)
    obtain ⟨rfl, rfl⟩ := hq
    refine mm_T.seg (f' := (83, [some (.ref 45), some (.int x1), some (.int x2), some (.int x3), some (.int g362)], [(.int ((mf_pick o2144 46 7 x1) + g362)), (.int x1), (.ref 46)])) (h' := (107, o2144, J, mm_rf 3 sp rr w nw)) 2 rfl ?_
    refine mm_T.call (t := 205) (as := [(.ref 46), (.int x1), (.int ((mf_pick o2144 46 7 x1) + g362))]) (f' := (86, [some (.ref 45), some (.int x1), some (.int x2), some (.int x3), some (.int g362)], [])) rfl (t_put _ 46 7 x1 ((mf_pick o2144 46 7 x1) + g362) o2144 J (mm_rf 3 sp rr w nw) rfl rfl) (fun v h hq => ?_)
    obtain ⟨rfl, rfl⟩ := hq
    refine mm_T.seg (f' := (90, [some (.ref 45), some (.int x1), some (.int x2), some (.int x3), some (.int g362)], [(.ref 47)])) (h' := (107, (mf_put o2144 46 7 x1 ((mf_pick o2144 46 7 x1) + g362)), J, mm_rf 3 sp rr w nw)) 2 rfl ?_
    refine mm_T.seg (f' := (95, [some (.ref 45), some (.int x1), some (.int x2), some (.int x3), some (.int g362)], [(.ref 47), (.int x1), (.ref 47)])) (h' := (107, (mf_put o2144 46 7 x1 ((mf_pick o2144 46 7 x1) + g362)), J, mm_rf 3 sp rr w nw)) 3 rfl ?_
    refine mm_T.seg (f' := (96, [some (.ref 45), some (.int x1), some (.int x2), some (.int x3), some (.int g362)], [(.int x1), (.ref 47), (.int x1), (.ref 47)])) (h' := (107, (mf_put o2144 46 7 x1 ((mf_pick o2144 46 7 x1) + g362)), J, mm_rf 3 sp rr w nw)) 1 rfl ?_
    refine mm_T.call (t := 204) (as := [(.ref 47), (.int x1)]) (f' := (99, [some (.ref 45), some (.int x1), some (.int x2), some (.int x3), some (.int g362)], [(.int x1), (.ref 47)])) rfl (t_pick _ 47 7 x1 (mf_put o2144 46 7 x1 ((mf_pick o2144 46 7 x1) + g362)) J (mm_rf 3 sp rr w nw) rfl rfl) (fun v h hq => ?_)
    obtain ⟨rfl, rfl⟩ := hq
    refine mm_T.seg (f' := (101, [some (.ref 45), some (.int x1), some (.int x2), some (.int x3), some (.int g362)], [(.int ((mf_pick (mf_put o2144 46 7 x1 ((mf_pick o2144 46 7 x1) + g362)) 47 7 x1) - 1)), (.int x1), (.ref 47)])) (h' := (107, (mf_put o2144 46 7 x1 ((mf_pick o2144 46 7 x1) + g362)), J, mm_rf 3 sp rr w nw)) 2 rfl ?_
    refine mm_T.call (t := 205) (as := [(.ref 47), (.int x1), (.int ((mf_pick (mf_put o2144 46 7 x1 ((mf_pick o2144 46 7 x1) + g362)) 47 7 x1) - 1))]) (f' := (104, [some (.ref 45), some (.int x1), some (.int x2), some (.int x3), some (.int g362)], [])) rfl (t_put _ 47 7 x1 ((mf_pick (mf_put o2144 46 7 x1 ((mf_pick o2144 46 7 x1) + g362)) 47 7 x1) - 1) (mf_put o2144 46 7 x1 ((mf_pick o2144 46 7 x1) + g362)) J (mm_rf 3 sp rr w nw) rfl rfl) (fun v h hq => ?_)
    obtain ⟨rfl, rfl⟩ := hq
    cases e
    exact mm_T.ret rfl ⟨rfl, rfl⟩
  · unfold fX9_placeIn at e
    refine mm_T.seg (f' := (4, [some (.ref 45), some (.int x1), some (.int x2), some (.int x3), none], [(.ref 18)])) (h' := (107, I, J, mm_rf 19 sp rr w nw)) 2 rfl ?_
    refine mm_T.seg (f' := (8, [some (.ref 45), some (.int x1), some (.int x2), some (.int x3), none], [(.int x2), (.ref 19)])) (h' := (107, I, J, mm_rf 19 sp rr w nw)) 2 rfl ?_
    obtain ⟨g362, hg362⟩ : ∃ z, fX5_loadWide x2 19 I = z := ⟨_, rfl⟩
    try rw [hg362] at e
    refine mm_T.call (t := 80) (as := [(.ref 19), (.int x2)]) (f' := (11, [some (.ref 45), some (.int x1), some (.int x2), some (.int x3), none], [])) rfl (tX5_loadWide (d + 0) x2 19 I J 19 sp rr w nw (Or.inr rfl) g362 hg362) (fun v h hq => ?_)
    obtain ⟨rfl, rfl⟩ := hq
    refine mm_T.seg (f' := (17, [some (.ref 45), some (.int x1), some (.int x2), some (.int x3), some (.int g362)], [(.ref 48)])) (h' := (107, I, J, mm_rf 19 sp rr w nw)) 3 rfl ?_
    refine mm_T.seg (f' := (19, [some (.ref 45), some (.int x1), some (.int x2), some (.int x3), some (.int g362)], [(.int x1), (.int x2), (.ref 48)])) (h' := (107, I, J, mm_rf 19 sp rr w nw)) 2 rfl ?_
    refine mm_T.call (t := 205) (as := [(.ref 48), (.int x2), (.int x1)]) (f' := (22, [some (.ref 45), some (.int x1), some (.int x2), some (.int x3), some (.int g362)], [])) rfl (t_put _ 48 7 x2 x1 I J (mm_rf 19 sp rr w nw) rfl rfl) (fun v h hq => ?_)
    obtain ⟨rfl, rfl⟩ := hq
    refine mm_T.seg (f' := (26, [some (.ref 45), some (.int x1), some (.int x2), some (.int x3), some (.int g362)], [(.ref 47)])) (h' := (107, (mf_put I 48 7 x2 x1), J, mm_rf 19 sp rr w nw)) 2 rfl ?_
    refine mm_T.seg (f' := (31, [some (.ref 45), some (.int x1), some (.int x2), some (.int x3), some (.int g362)], [(.ref 47), (.int x1), (.ref 47)])) (h' := (107, (mf_put I 48 7 x2 x1), J, mm_rf 19 sp rr w nw)) 3 rfl ?_
    refine mm_T.seg (f' := (32, [some (.ref 45), some (.int x1), some (.int x2), some (.int x3), some (.int g362)], [(.int x1), (.ref 47), (.int x1), (.ref 47)])) (h' := (107, (mf_put I 48 7 x2 x1), J, mm_rf 19 sp rr w nw)) 1 rfl ?_
    refine mm_T.call (t := 204) (as := [(.ref 47), (.int x1)]) (f' := (35, [some (.ref 45), some (.int x1), some (.int x2), some (.int x3), some (.int g362)], [(.int x1), (.ref 47)])) rfl (t_pick _ 47 7 x1 (mf_put I 48 7 x2 x1) J (mm_rf 19 sp rr w nw) rfl rfl) (fun v h hq => ?_)
    obtain ⟨rfl, rfl⟩ := hq
    refine mm_T.seg (f' := (37, [some (.ref 45), some (.int x1), some (.int x2), some (.int x3), some (.int g362)], [(.int ((mf_pick (mf_put I 48 7 x2 x1) 47 7 x1) + 1)), (.int x1), (.ref 47)])) (h' := (107, (mf_put I 48 7 x2 x1), J, mm_rf 19 sp rr w nw)) 2 rfl ?_
    refine mm_T.call (t := 205) (as := [(.ref 47), (.int x1), (.int ((mf_pick (mf_put I 48 7 x2 x1) 47 7 x1) + 1))]) (f' := (40, [some (.ref 45), some (.int x1), some (.int x2), some (.int x3), some (.int g362)], [])) rfl (t_put _ 47 7 x1 ((mf_pick (mf_put I 48 7 x2 x1) 47 7 x1) + 1) (mf_put I 48 7 x2 x1) J (mm_rf 19 sp rr w nw) rfl rfl) (fun v h hq => ?_)
    obtain ⟨rfl, rfl⟩ := hq
    refine mm_T.seg (f' := (44, [some (.ref 45), some (.int x1), some (.int x2), some (.int x3), some (.int g362)], [(.ref 46)])) (h' := (107, (mf_put (mf_put I 48 7 x2 x1) 47 7 x1 ((mf_pick (mf_put I 48 7 x2 x1) 47 7 x1) + 1)), J, mm_rf 19 sp rr w nw)) 2 rfl ?_
    refine mm_T.seg (f' := (49, [some (.ref 45), some (.int x1), some (.int x2), some (.int x3), some (.int g362)], [(.ref 46), (.int x1), (.ref 46)])) (h' := (107, (mf_put (mf_put I 48 7 x2 x1) 47 7 x1 ((mf_pick (mf_put I 48 7 x2 x1) 47 7 x1) + 1)), J, mm_rf 19 sp rr w nw)) 3 rfl ?_
    refine mm_T.seg (f' := (50, [some (.ref 45), some (.int x1), some (.int x2), some (.int x3), some (.int g362)], [(.int x1), (.ref 46), (.int x1), (.ref 46)])) (h' := (107, (mf_put (mf_put I 48 7 x2 x1) 47 7 x1 ((mf_pick (mf_put I 48 7 x2 x1) 47 7 x1) + 1)), J, mm_rf 19 sp rr w nw)) 1 rfl ?_
    refine mm_T.call (t := 204) (as := [(.ref 46), (.int x1)]) (f' := (53, [some (.ref 45), some (.int x1), some (.int x2), some (.int x3), some (.int g362)], [(.int x1), (.ref 46)])) rfl (t_pick _ 46 7 x1 (mf_put (mf_put I 48 7 x2 x1) 47 7 x1 ((mf_pick (mf_put I 48 7 x2 x1) 47 7 x1) + 1)) J (mm_rf 19 sp rr w nw) rfl rfl) (fun v h hq => ?_)
    obtain ⟨rfl, rfl⟩ := hq
    refine mm_T.seg (f' := (56, [some (.ref 45), some (.int x1), some (.int x2), some (.int x3), some (.int g362)], [(.int ((mf_pick (mf_put (mf_put I 48 7 x2 x1) 47 7 x1 ((mf_pick (mf_put I 48 7 x2 x1) 47 7 x1) + 1)) 46 7 x1) - g362)), (.int x1), (.ref 46)])) (h' := (107, (mf_put (mf_put I 48 7 x2 x1) 47 7 x1 ((mf_pick (mf_put I 48 7 x2 x1) 47 7 x1) + 1)), J, mm_rf 19 sp rr w nw)) 2 rfl ?_
    refine mm_T.call (t := 205) (as := [(.ref 46), (.int x1), (.int ((mf_pick (mf_put (mf_put I 48 7 x2 x1) 47 7 x1 ((mf_pick (mf_put I 48 7 x2 x1) 47 7 x1) + 1)) 46 7 x1) - g362))]) (f' := (59, [some (.ref 45), some (.int x1), some (.int x2), some (.int x3), some (.int g362)], [])) rfl (t_put _ 46 7 x1 ((mf_pick (mf_put (mf_put I 48 7 x2 x1) 47 7 x1 ((mf_pick (mf_put I 48 7 x2 x1) 47 7 x1) + 1)) 46 7 x1) - g362) (mf_put (mf_put I 48 7 x2 x1) 47 7 x1 ((mf_pick (mf_put I 48 7 x2 x1) 47 7 x1) + 1)) J (mm_rf 19 sp rr w nw) rfl rfl) (fun v h hq => ?_)
    obtain ⟨rfl, rfl⟩ := hq
    refine mm_T.seg (f' := (64, [some (.ref 45), some (.int x1), some (.int x2), some (.int x3), some (.int g362)], [(.int x3), (.int (x2 + 1)), (.ref 45)])) (h' := (107, (mf_put (mf_put (mf_put I 48 7 x2 x1) 47 7 x1 ((mf_pick (mf_put I 48 7 x2 x1) 47 7 x1) + 1)) 46 7 x1 ((mf_pick (mf_put (mf_put I 48 7 x2 x1) 47 7 x1 ((mf_pick (mf_put I 48 7 x2 x1) 47 7 x1) + 1)) 46 7 x1) - g362)), J, mm_rf 19 sp rr w nw)) 5 rfl ?_
    obtain ⟨o2144, eo2144, e⟩ := mm_bind e
    refine mm_T.call (t := 137) (as := [(.ref 45), (.int (x2 + 1)), (.int x3)]) (f' := (67, [some (.ref 45), some (.int x1), some (.int x2), some (.int x3), some (.int g362)], [])) rfl (mm_T.deep (hrec (x2 + 1) x3 (mf_put (mf_put (mf_put I 48 7 x2 x1) 47 7 x1 ((mf_pick (mf_put I 48 7 x2 x1) 47 7 x1) + 1)) 46 7 x1 ((mf_pick (mf_put (mf_put I 48 7 x2 x1) 47 7 x1 ((mf_pick (mf_put I 48 7 x2 x1) 47 7 x1) + 1)) 46 7 x1) - g362)) J 19 sp rr w nw (Or.inr rfl) o2144 eo2144) (by omega)) (fun v h hq => ?_)
    obtain ⟨rfl, rfl⟩ := hq
    refine mm_T.seg (f' := (71, [some (.ref 45), some (.int x1), some (.int x2), some (.int x3), some (.int g362)], [(.ref 46)])) (h' := (107, o2144, J, mm_rf 19 sp rr w nw)) 2 rfl ?_
    refine mm_T.seg (f' := (76, [some (.ref 45), some (.int x1), some (.int x2), some (.int x3), some (.int g362)], [(.ref 46), (.int x1), (.ref 46)])) (h' := (107, o2144, J, mm_rf 19 sp rr w nw)) 3 rfl ?_
    refine mm_T.seg (f' := (77, [some (.ref 45), some (.int x1), some (.int x2), some (.int x3), some (.int g362)], [(.int x1), (.ref 46), (.int x1), (.ref 46)])) (h' := (107, o2144, J, mm_rf 19 sp rr w nw)) 1 rfl ?_
    refine mm_T.call (t := 204) (as := [(.ref 46), (.int x1)]) (f' := (80, [some (.ref 45), some (.int x1), some (.int x2), some (.int x3), some (.int g362)], [(.int x1), (.ref 46)])) rfl (t_pick _ 46 7 x1 o2144 J (mm_rf 19 sp rr w nw) rfl rfl) (fun v h hq => ?_)
    obtain ⟨rfl, rfl⟩ := hq
    refine mm_T.seg (f' := (83, [some (.ref 45), some (.int x1), some (.int x2), some (.int x3), some (.int g362)], [(.int ((mf_pick o2144 46 7 x1) + g362)), (.int x1), (.ref 46)])) (h' := (107, o2144, J, mm_rf 19 sp rr w nw)) 2 rfl ?_
    refine mm_T.call (t := 205) (as := [(.ref 46), (.int x1), (.int ((mf_pick o2144 46 7 x1) + g362))]) (f' := (86, [some (.ref 45), some (.int x1), some (.int x2), some (.int x3), some (.int g362)], [])) rfl (t_put _ 46 7 x1 ((mf_pick o2144 46 7 x1) + g362) o2144 J (mm_rf 19 sp rr w nw) rfl rfl) (fun v h hq => ?_)
    obtain ⟨rfl, rfl⟩ := hq
    refine mm_T.seg (f' := (90, [some (.ref 45), some (.int x1), some (.int x2), some (.int x3), some (.int g362)], [(.ref 47)])) (h' := (107, (mf_put o2144 46 7 x1 ((mf_pick o2144 46 7 x1) + g362)), J, mm_rf 19 sp rr w nw)) 2 rfl ?_
    refine mm_T.seg (f' := (95, [some (.ref 45), some (.int x1), some (.int x2), some (.int x3), some (.int g362)], [(.ref 47), (.int x1), (.ref 47)])) (h' := (107, (mf_put o2144 46 7 x1 ((mf_pick o2144 46 7 x1) + g362)), J, mm_rf 19 sp rr w nw)) 3 rfl ?_
    refine mm_T.seg (f' := (96, [some (.ref 45), some (.int x1), some (.int x2), some (.int x3), some (.int g362)], [(.int x1), (.ref 47), (.int x1), (.ref 47)])) (h' := (107, (mf_put o2144 46 7 x1 ((mf_pick o2144 46 7 x1) + g362)), J, mm_rf 19 sp rr w nw)) 1 rfl ?_
    refine mm_T.call (t := 204) (as := [(.ref 47), (.int x1)]) (f' := (99, [some (.ref 45), some (.int x1), some (.int x2), some (.int x3), some (.int g362)], [(.int x1), (.ref 47)])) rfl (t_pick _ 47 7 x1 (mf_put o2144 46 7 x1 ((mf_pick o2144 46 7 x1) + g362)) J (mm_rf 19 sp rr w nw) rfl rfl) (fun v h hq => ?_)
    obtain ⟨rfl, rfl⟩ := hq
    refine mm_T.seg (f' := (101, [some (.ref 45), some (.int x1), some (.int x2), some (.int x3), some (.int g362)], [(.int ((mf_pick (mf_put o2144 46 7 x1 ((mf_pick o2144 46 7 x1) + g362)) 47 7 x1) - 1)), (.int x1), (.ref 47)])) (h' := (107, (mf_put o2144 46 7 x1 ((mf_pick o2144 46 7 x1) + g362)), J, mm_rf 19 sp rr w nw)) 2 rfl ?_
    refine mm_T.call (t := 205) (as := [(.ref 47), (.int x1), (.int ((mf_pick (mf_put o2144 46 7 x1 ((mf_pick o2144 46 7 x1) + g362)) 47 7 x1) - 1))]) (f' := (104, [some (.ref 45), some (.int x1), some (.int x2), some (.int x3), some (.int g362)], [])) rfl (t_put _ 47 7 x1 ((mf_pick (mf_put o2144 46 7 x1 ((mf_pick o2144 46 7 x1) + g362)) 47 7 x1) - 1) (mf_put o2144 46 7 x1 ((mf_pick o2144 46 7 x1) + g362)) J (mm_rf 19 sp rr w nw) rfl rfl) (fun v h hq => ?_)
    obtain ⟨rfl, rfl⟩ := hq
    cases e
    exact mm_T.ret rfl ⟨rfl, rfl⟩
set_option maxRecDepth 100000 in
set_option maxHeartbeats 4000000 in
theorem tlX9_place_L76 (d : Nat) (Q : Option Value → mm_H → Prop) (rec : Int32 → Int32 → (Nat → Nat → Int32) → Nat → Option ((Nat → Nat → Int32))) (hrec : ∀ (x1 : Int32) (x2 : Int32) (I : Nat → Nat → Int32) (J : Nat → Nat → Int64) (rv sp rr w nw : Nat), (rv = 3 ∨ rv = 19) → ∀ (out : (Nat → Nat → Int32)), rec x1 x2 I rv = some out → mm_T none d 137 (mm_ent 137 [(.ref 45), (.int x1), (.int x2)]) (107, I, J, mm_rf rv sp rr w nw) (fun v h => v = none ∧ h = (107, out, J, mm_rf rv sp rr w nw))) : ∀ (n : Nat) (y1 : Int32) (y2 : Int32) (y3 : Int32) (I : Nat → Nat → Int32) (J : Nat → Nat → Int64) (rv sp rr w nw : Nat), (rv = 3 ∨ rv = 19) → ∀ (out : (Unit ⊕ (Unit)) × (Nat → Nat → Int32)), fX9_place_L76 n rec y1 y2 y3 I rv = some out → (∀ (r : Unit) (s0 : Nat → Nat → Int32), out = (.inl r, s0) → Q none (107, s0, J, mm_rf rv sp rr w nw)) → (∀ (y : Unit) (s0 : Nat → Nat → Int32), out = (.inr y, s0) → mm_T none (d + 3) 137 (161, [none, none, none, none, none], []) (107, s0, J, mm_rf rv sp rr w nw) Q) → mm_T none (d + 3) 137 (76, [some (.ref 45), some (.int y1), some (.int y2), some (.int y3), none], []) (107, I, J, mm_rf rv sp rr w nw) Q := by
  intro n
  induction n with
  | zero =>
    intro y1 y2 y3 I J rv sp rr w nw hrv out e kr ke
    rw [fX9_place_L76] at e; cases e
  | succ n ih =>
    intro y1 y2 y3 I J rv sp rr w nw hrv out e kr ke
    rcases hrv with rfl | rfl
    · rw [fX9_place_L76] at e
      refine mm_T.seg (f' := (81, [some (.ref 45), some (.int y1), some (.int y2), some (.int y3), none], [(.int (I 45 4)), (.int y3)])) (h' := (107, I, J, mm_rf 3 sp rr w nw)) 3 rfl ?_
      refine mm_T.br (c := y3 < (I 45 4)) (a := ((84, [some (.ref 45), some (.int y1), some (.int y2), some (.int y3), none], []), (107, I, J, mm_rf 3 sp rr w nw))) (b := ((161, [some (.ref 45), some (.int y1), some (.int y2), some (.int y3), none], []), (107, I, J, mm_rf 3 sp rr w nw))) rfl (fun h2149 => ?_) (fun h2149 => ?_)
      · rw [if_pos h2149] at e
        refine mm_T.seg (f' := (88, [some (.ref 45), some (.int y1), some (.int y2), some (.int y3), none], [(.ref 47)])) (h' := (107, I, J, mm_rf 3 sp rr w nw)) 2 rfl ?_
        refine mm_T.seg (f' := (89, [some (.ref 45), some (.int y1), some (.int y2), some (.int y3), none], [(.int y3), (.ref 47)])) (h' := (107, I, J, mm_rf 3 sp rr w nw)) 1 rfl ?_
        refine mm_T.call (t := 204) (as := [(.ref 47), (.int y3)]) (f' := (92, [some (.ref 45), some (.int y1), some (.int y2), some (.int y3), none], [])) rfl (t_pick _ 47 7 y3 I J (mm_rf 3 sp rr w nw) rfl rfl) (fun v h hq => ?_)
        obtain ⟨rfl, rfl⟩ := hq
        refine mm_T.br (c := (mf_pick I 47 7 y3) = 0) (a := ((95, [some (.ref 45), some (.int y1), some (.int y2), some (.int y3), none], []), (107, I, J, mm_rf 3 sp rr w nw))) (b := ((99, [some (.ref 45), some (.int y1), some (.int y2), some (.int y3), none], []), (107, I, J, mm_rf 3 sp rr w nw))) rfl (fun h2150 => ?_) (fun h2150 => ?_)
        · rw [if_pos h2150] at e
          refine mm_T.seg (f' := (106, [some (.ref 45), some (.int y1), some (.int y2), some (.int y3), some (.int 1)], [(.ref 18)])) (h' := (107, I, J, mm_rf 3 sp rr w nw)) 5 rfl ?_
          refine mm_T.seg (f' := (110, [some (.ref 45), some (.int y1), some (.int y2), some (.int y3), some (.int 1)], [(.int y1), (.ref 3)])) (h' := (107, I, J, mm_rf 3 sp rr w nw)) 2 rfl ?_
          obtain ⟨g364, hg364⟩ : ∃ z, fX5_loadWide y1 3 I = z := ⟨_, rfl⟩
          try rw [hg364] at e
          refine mm_T.call (t := 80) (as := [(.ref 3), (.int y1)]) (f' := (113, [some (.ref 45), some (.int y1), some (.int y2), some (.int y3), some (.int 1)], [])) rfl (tX5_loadWide (d + 1) y1 3 I J 3 sp rr w nw (Or.inl rfl) g364 hg364) (fun v h hq => ?_)
          obtain ⟨rfl, rfl⟩ := hq
          refine mm_T.seg (f' := (117, [some (.ref 45), some (.int y1), some (.int y2), some (.int y3), some (.int 1)], [(.ref 46), (.int g364)])) (h' := (107, I, J, mm_rf 3 sp rr w nw)) 2 rfl ?_
          refine mm_T.seg (f' := (118, [some (.ref 45), some (.int y1), some (.int y2), some (.int y3), some (.int 1)], [(.int y3), (.ref 46), (.int g364)])) (h' := (107, I, J, mm_rf 3 sp rr w nw)) 1 rfl ?_
          refine mm_T.call (t := 204) (as := [(.ref 46), (.int y3)]) (f' := (121, [some (.ref 45), some (.int y1), some (.int y2), some (.int y3), some (.int 1)], [(.int g364)])) rfl (t_pick _ 46 7 y3 I J (mm_rf 3 sp rr w nw) rfl rfl) (fun v h hq => ?_)
          obtain ⟨rfl, rfl⟩ := hq
          refine mm_T.br (c := (mf_pick I 46 7 y3) < g364) (a := ((142, [some (.ref 45), some (.int y1), some (.int y2), some (.int y3), some (.int 1)], []), (107, I, J, mm_rf 3 sp rr w nw))) (b := ((124, [some (.ref 45), some (.int y1), some (.int y2), some (.int y3), some (.int 1)], []), (107, I, J, mm_rf 3 sp rr w nw))) rfl (fun h2151 => ?_) (fun h2151 => ?_)
          · rw [if_pos h2151] at e
            refine mm_T.seg (f' := (151, [some (.ref 45), some (.int y1), some (.int y2), some (.int y3), some (.int 1)], [(.int (I 45 5))])) (h' := (107, I, J, mm_rf 3 sp rr w nw)) 4 rfl ?_
            refine mm_T.br (c := (I 45 5) = 0) (a := ((155, [some (.ref 45), some (.int y1), some (.int y2), some (.int y3), some (.int 1)], []), (107, I, J, mm_rf 3 sp rr w nw))) (b := ((154, [some (.ref 45), some (.int y1), some (.int y2), some (.int y3), some (.int 1)], []), (107, I, J, mm_rf 3 sp rr w nw))) rfl (fun h2152 => ?_) (fun h2152 => ?_)
            · rw [if_pos h2152] at e
              refine mm_T.seg (f' := (76, [some (.ref 45), some (.int y1), some (.int y2), some (.int (y3 + 1)), some (.int 1)], [])) (h' := (107, I, J, mm_rf 3 sp rr w nw)) 2 rfl ?_
              refine mm_T.mask [true, true, true, true, false] ?_
              exact ih y1 y2 (y3 + 1) I J 3 sp rr w nw (Or.inl rfl) out e kr ke
            · rw [if_neg h2152] at e
              cases e
              exact mm_T.ret rfl (kr _ _ rfl)
          · rw [if_neg h2151] at e
            refine mm_T.seg (f' := (139, [some (.ref 45), some (.int y1), some (.int y2), some (.int y3), some (.int 1)], [(.int (y2 + 1)), (.int y1), (.int y3), (.ref 45)])) (h' := (107, I, J, mm_rf 3 sp rr w nw)) 9 rfl ?_
            obtain ⟨o2153, eo2153, e⟩ := mm_bind e
            refine mm_T.call (t := 138) (as := [(.ref 45), (.int y3), (.int y1), (.int (y2 + 1))]) (f' := (142, [some (.ref 45), some (.int y1), some (.int y2), some (.int y3), some (.int 1)], [])) rfl (mm_T.deep (tX9_placeIn d n rec hrec y3 y1 (y2 + 1) I J 3 sp rr w nw (Or.inl rfl) o2153 eo2153) (by omega)) (fun v h hq => ?_)
            obtain ⟨rfl, rfl⟩ := hq
            refine mm_T.seg (f' := (151, [some (.ref 45), some (.int y1), some (.int y2), some (.int y3), some (.int 1)], [(.int (o2153 45 5))])) (h' := (107, o2153, J, mm_rf 3 sp rr w nw)) 4 rfl ?_
            refine mm_T.br (c := (o2153 45 5) = 0) (a := ((155, [some (.ref 45), some (.int y1), some (.int y2), some (.int y3), some (.int 1)], []), (107, o2153, J, mm_rf 3 sp rr w nw))) (b := ((154, [some (.ref 45), some (.int y1), some (.int y2), some (.int y3), some (.int 1)], []), (107, o2153, J, mm_rf 3 sp rr w nw))) rfl (fun h2154 => ?_) (fun h2154 => ?_)
            · rw [if_pos h2154] at e
              refine mm_T.seg (f' := (76, [some (.ref 45), some (.int y1), some (.int y2), some (.int (y3 + 1)), some (.int 1)], [])) (h' := (107, o2153, J, mm_rf 3 sp rr w nw)) 2 rfl ?_
              refine mm_T.mask [true, true, true, true, false] ?_
              exact ih y1 y2 (y3 + 1) o2153 J 3 sp rr w nw (Or.inl rfl) out e kr ke
            · rw [if_neg h2154] at e
              cases e
              exact mm_T.ret rfl (kr _ _ rfl)
        · rw [if_neg h2150] at e
          refine mm_T.seg (f' := (106, [some (.ref 45), some (.int y1), some (.int y2), some (.int y3), some (.int 0)], [(.ref 18)])) (h' := (107, I, J, mm_rf 3 sp rr w nw)) 4 rfl ?_
          refine mm_T.seg (f' := (110, [some (.ref 45), some (.int y1), some (.int y2), some (.int y3), some (.int 0)], [(.int y1), (.ref 3)])) (h' := (107, I, J, mm_rf 3 sp rr w nw)) 2 rfl ?_
          obtain ⟨g365, hg365⟩ : ∃ z, fX5_loadWide y1 3 I = z := ⟨_, rfl⟩
          try rw [hg365] at e
          refine mm_T.call (t := 80) (as := [(.ref 3), (.int y1)]) (f' := (113, [some (.ref 45), some (.int y1), some (.int y2), some (.int y3), some (.int 0)], [])) rfl (tX5_loadWide (d + 1) y1 3 I J 3 sp rr w nw (Or.inl rfl) g365 hg365) (fun v h hq => ?_)
          obtain ⟨rfl, rfl⟩ := hq
          refine mm_T.seg (f' := (117, [some (.ref 45), some (.int y1), some (.int y2), some (.int y3), some (.int 0)], [(.ref 46), (.int g365)])) (h' := (107, I, J, mm_rf 3 sp rr w nw)) 2 rfl ?_
          refine mm_T.seg (f' := (118, [some (.ref 45), some (.int y1), some (.int y2), some (.int y3), some (.int 0)], [(.int y3), (.ref 46), (.int g365)])) (h' := (107, I, J, mm_rf 3 sp rr w nw)) 1 rfl ?_
          refine mm_T.call (t := 204) (as := [(.ref 46), (.int y3)]) (f' := (121, [some (.ref 45), some (.int y1), some (.int y2), some (.int y3), some (.int 0)], [(.int g365)])) rfl (t_pick _ 46 7 y3 I J (mm_rf 3 sp rr w nw) rfl rfl) (fun v h hq => ?_)
          obtain ⟨rfl, rfl⟩ := hq
          refine mm_T.br (c := (mf_pick I 46 7 y3) < g365) (a := ((142, [some (.ref 45), some (.int y1), some (.int y2), some (.int y3), some (.int 0)], []), (107, I, J, mm_rf 3 sp rr w nw))) (b := ((124, [some (.ref 45), some (.int y1), some (.int y2), some (.int y3), some (.int 0)], []), (107, I, J, mm_rf 3 sp rr w nw))) rfl (fun h2155 => ?_) (fun h2155 => ?_)
          · rw [if_pos h2155] at e
            refine mm_T.seg (f' := (76, [some (.ref 45), some (.int y1), some (.int y2), some (.int (y3 + 1)), some (.int 0)], [])) (h' := (107, I, J, mm_rf 3 sp rr w nw)) 4 rfl ?_
            refine mm_T.mask [true, true, true, true, false] ?_
            exact ih y1 y2 (y3 + 1) I J 3 sp rr w nw (Or.inl rfl) out e kr ke
          · rw [if_neg h2155] at e
            refine mm_T.seg (f' := (139, [some (.ref 45), some (.int y1), some (.int y2), some (.int y3), some (.int 0)], [(.int y2), (.int y1), (.int y3), (.ref 45)])) (h' := (107, I, J, mm_rf 3 sp rr w nw)) 6 rfl ?_
            obtain ⟨o2156, eo2156, e⟩ := mm_bind e
            refine mm_T.call (t := 138) (as := [(.ref 45), (.int y3), (.int y1), (.int y2)]) (f' := (142, [some (.ref 45), some (.int y1), some (.int y2), some (.int y3), some (.int 0)], [])) rfl (mm_T.deep (tX9_placeIn d n rec hrec y3 y1 y2 I J 3 sp rr w nw (Or.inl rfl) o2156 eo2156) (by omega)) (fun v h hq => ?_)
            obtain ⟨rfl, rfl⟩ := hq
            refine mm_T.seg (f' := (76, [some (.ref 45), some (.int y1), some (.int y2), some (.int (y3 + 1)), some (.int 0)], [])) (h' := (107, o2156, J, mm_rf 3 sp rr w nw)) 4 rfl ?_
            refine mm_T.mask [true, true, true, true, false] ?_
            exact ih y1 y2 (y3 + 1) o2156 J 3 sp rr w nw (Or.inl rfl) out e kr ke
      · rw [if_neg h2149] at e
        cases e
        refine mm_T.mask [false, false, false, false, false] ?_
        exact ke _ _ rfl
    · rw [fX9_place_L76] at e
      refine mm_T.seg (f' := (81, [some (.ref 45), some (.int y1), some (.int y2), some (.int y3), none], [(.int (I 45 4)), (.int y3)])) (h' := (107, I, J, mm_rf 19 sp rr w nw)) 3 rfl ?_
      refine mm_T.br (c := y3 < (I 45 4)) (a := ((84, [some (.ref 45), some (.int y1), some (.int y2), some (.int y3), none], []), (107, I, J, mm_rf 19 sp rr w nw))) (b := ((161, [some (.ref 45), some (.int y1), some (.int y2), some (.int y3), none], []), (107, I, J, mm_rf 19 sp rr w nw))) rfl (fun h2149 => ?_) (fun h2149 => ?_)
      · rw [if_pos h2149] at e
        refine mm_T.seg (f' := (88, [some (.ref 45), some (.int y1), some (.int y2), some (.int y3), none], [(.ref 47)])) (h' := (107, I, J, mm_rf 19 sp rr w nw)) 2 rfl ?_
        refine mm_T.seg (f' := (89, [some (.ref 45), some (.int y1), some (.int y2), some (.int y3), none], [(.int y3), (.ref 47)])) (h' := (107, I, J, mm_rf 19 sp rr w nw)) 1 rfl ?_
        refine mm_T.call (t := 204) (as := [(.ref 47), (.int y3)]) (f' := (92, [some (.ref 45), some (.int y1), some (.int y2), some (.int y3), none], [])) rfl (t_pick _ 47 7 y3 I J (mm_rf 19 sp rr w nw) rfl rfl) (fun v h hq => ?_)
        obtain ⟨rfl, rfl⟩ := hq
        refine mm_T.br (c := (mf_pick I 47 7 y3) = 0) (a := ((95, [some (.ref 45), some (.int y1), some (.int y2), some (.int y3), none], []), (107, I, J, mm_rf 19 sp rr w nw))) (b := ((99, [some (.ref 45), some (.int y1), some (.int y2), some (.int y3), none], []), (107, I, J, mm_rf 19 sp rr w nw))) rfl (fun h2150 => ?_) (fun h2150 => ?_)
        · rw [if_pos h2150] at e
          refine mm_T.seg (f' := (106, [some (.ref 45), some (.int y1), some (.int y2), some (.int y3), some (.int 1)], [(.ref 18)])) (h' := (107, I, J, mm_rf 19 sp rr w nw)) 5 rfl ?_
          refine mm_T.seg (f' := (110, [some (.ref 45), some (.int y1), some (.int y2), some (.int y3), some (.int 1)], [(.int y1), (.ref 19)])) (h' := (107, I, J, mm_rf 19 sp rr w nw)) 2 rfl ?_
          obtain ⟨g364, hg364⟩ : ∃ z, fX5_loadWide y1 19 I = z := ⟨_, rfl⟩
          try rw [hg364] at e
          refine mm_T.call (t := 80) (as := [(.ref 19), (.int y1)]) (f' := (113, [some (.ref 45), some (.int y1), some (.int y2), some (.int y3), some (.int 1)], [])) rfl (tX5_loadWide (d + 1) y1 19 I J 19 sp rr w nw (Or.inr rfl) g364 hg364) (fun v h hq => ?_)
          obtain ⟨rfl, rfl⟩ := hq
          refine mm_T.seg (f' := (117, [some (.ref 45), some (.int y1), some (.int y2), some (.int y3), some (.int 1)], [(.ref 46), (.int g364)])) (h' := (107, I, J, mm_rf 19 sp rr w nw)) 2 rfl ?_
          refine mm_T.seg (f' := (118, [some (.ref 45), some (.int y1), some (.int y2), some (.int y3), some (.int 1)], [(.int y3), (.ref 46), (.int g364)])) (h' := (107, I, J, mm_rf 19 sp rr w nw)) 1 rfl ?_
          refine mm_T.call (t := 204) (as := [(.ref 46), (.int y3)]) (f' := (121, [some (.ref 45), some (.int y1), some (.int y2), some (.int y3), some (.int 1)], [(.int g364)])) rfl (t_pick _ 46 7 y3 I J (mm_rf 19 sp rr w nw) rfl rfl) (fun v h hq => ?_)
          obtain ⟨rfl, rfl⟩ := hq
          refine mm_T.br (c := (mf_pick I 46 7 y3) < g364) (a := ((142, [some (.ref 45), some (.int y1), some (.int y2), some (.int y3), some (.int 1)], []), (107, I, J, mm_rf 19 sp rr w nw))) (b := ((124, [some (.ref 45), some (.int y1), some (.int y2), some (.int y3), some (.int 1)], []), (107, I, J, mm_rf 19 sp rr w nw))) rfl (fun h2151 => ?_) (fun h2151 => ?_)
          · rw [if_pos h2151] at e
            refine mm_T.seg (f' := (151, [some (.ref 45), some (.int y1), some (.int y2), some (.int y3), some (.int 1)], [(.int (I 45 5))])) (h' := (107, I, J, mm_rf 19 sp rr w nw)) 4 rfl ?_
            refine mm_T.br (c := (I 45 5) = 0) (a := ((155, [some (.ref 45), some (.int y1), some (.int y2), some (.int y3), some (.int 1)], []), (107, I, J, mm_rf 19 sp rr w nw))) (b := ((154, [some (.ref 45), some (.int y1), some (.int y2), some (.int y3), some (.int 1)], []), (107, I, J, mm_rf 19 sp rr w nw))) rfl (fun h2152 => ?_) (fun h2152 => ?_)
            · rw [if_pos h2152] at e
              refine mm_T.seg (f' := (76, [some (.ref 45), some (.int y1), some (.int y2), some (.int (y3 + 1)), some (.int 1)], [])) (h' := (107, I, J, mm_rf 19 sp rr w nw)) 2 rfl ?_
              refine mm_T.mask [true, true, true, true, false] ?_
              exact ih y1 y2 (y3 + 1) I J 19 sp rr w nw (Or.inr rfl) out e kr ke
            · rw [if_neg h2152] at e
              cases e
              exact mm_T.ret rfl (kr _ _ rfl)
          · rw [if_neg h2151] at e
            refine mm_T.seg (f' := (139, [some (.ref 45), some (.int y1), some (.int y2), some (.int y3), some (.int 1)], [(.int (y2 + 1)), (.int y1), (.int y3), (.ref 45)])) (h' := (107, I, J, mm_rf 19 sp rr w nw)) 9 rfl ?_
            obtain ⟨o2153, eo2153, e⟩ := mm_bind e
            refine mm_T.call (t := 138) (as := [(.ref 45), (.int y3), (.int y1), (.int (y2 + 1))]) (f' := (142, [some (.ref 45), some (.int y1), some (.int y2), some (.int y3), some (.int 1)], [])) rfl (mm_T.deep (tX9_placeIn d n rec hrec y3 y1 (y2 + 1) I J 19 sp rr w nw (Or.inr rfl) o2153 eo2153) (by omega)) (fun v h hq => ?_)
            obtain ⟨rfl, rfl⟩ := hq
            refine mm_T.seg (f' := (151, [some (.ref 45), some (.int y1), some (.int y2), some (.int y3), some (.int 1)], [(.int (o2153 45 5))])) (h' := (107, o2153, J, mm_rf 19 sp rr w nw)) 4 rfl ?_
            refine mm_T.br (c := (o2153 45 5) = 0) (a := ((155, [some (.ref 45), some (.int y1), some (.int y2), some (.int y3), some (.int 1)], []), (107, o2153, J, mm_rf 19 sp rr w nw))) (b := ((154, [some (.ref 45), some (.int y1), some (.int y2), some (.int y3), some (.int 1)], []), (107, o2153, J, mm_rf 19 sp rr w nw))) rfl (fun h2154 => ?_) (fun h2154 => ?_)
            · rw [if_pos h2154] at e
              refine mm_T.seg (f' := (76, [some (.ref 45), some (.int y1), some (.int y2), some (.int (y3 + 1)), some (.int 1)], [])) (h' := (107, o2153, J, mm_rf 19 sp rr w nw)) 2 rfl ?_
              refine mm_T.mask [true, true, true, true, false] ?_
              exact ih y1 y2 (y3 + 1) o2153 J 19 sp rr w nw (Or.inr rfl) out e kr ke
            · rw [if_neg h2154] at e
              cases e
              exact mm_T.ret rfl (kr _ _ rfl)
        · rw [if_neg h2150] at e
          refine mm_T.seg (f' := (106, [some (.ref 45), some (.int y1), some (.int y2), some (.int y3), some (.int 0)], [(.ref 18)])) (h' := (107, I, J, mm_rf 19 sp rr w nw)) 4 rfl ?_
          refine mm_T.seg (f' := (110, [some (.ref 45), some (.int y1), some (.int y2), some (.int y3), some (.int 0)], [(.int y1), (.ref 19)])) (h' := (107, I, J, mm_rf 19 sp rr w nw)) 2 rfl ?_
          obtain ⟨g365, hg365⟩ : ∃ z, fX5_loadWide y1 19 I = z := ⟨_, rfl⟩
          try rw [hg365] at e
          refine mm_T.call (t := 80) (as := [(.ref 19), (.int y1)]) (f' := (113, [some (.ref 45), some (.int y1), some (.int y2), some (.int y3), some (.int 0)], [])) rfl (tX5_loadWide (d + 1) y1 19 I J 19 sp rr w nw (Or.inr rfl) g365 hg365) (fun v h hq => ?_)
          obtain ⟨rfl, rfl⟩ := hq
          refine mm_T.seg (f' := (117, [some (.ref 45), some (.int y1), some (.int y2), some (.int y3), some (.int 0)], [(.ref 46), (.int g365)])) (h' := (107, I, J, mm_rf 19 sp rr w nw)) 2 rfl ?_
          refine mm_T.seg (f' := (118, [some (.ref 45), some (.int y1), some (.int y2), some (.int y3), some (.int 0)], [(.int y3), (.ref 46), (.int g365)])) (h' := (107, I, J, mm_rf 19 sp rr w nw)) 1 rfl ?_
          refine mm_T.call (t := 204) (as := [(.ref 46), (.int y3)]) (f' := (121, [some (.ref 45), some (.int y1), some (.int y2), some (.int y3), some (.int 0)], [(.int g365)])) rfl (t_pick _ 46 7 y3 I J (mm_rf 19 sp rr w nw) rfl rfl) (fun v h hq => ?_)
          obtain ⟨rfl, rfl⟩ := hq
          refine mm_T.br (c := (mf_pick I 46 7 y3) < g365) (a := ((142, [some (.ref 45), some (.int y1), some (.int y2), some (.int y3), some (.int 0)], []), (107, I, J, mm_rf 19 sp rr w nw))) (b := ((124, [some (.ref 45), some (.int y1), some (.int y2), some (.int y3), some (.int 0)], []), (107, I, J, mm_rf 19 sp rr w nw))) rfl (fun h2155 => ?_) (fun h2155 => ?_)
          · rw [if_pos h2155] at e
            refine mm_T.seg (f' := (76, [some (.ref 45), some (.int y1), some (.int y2), some (.int (y3 + 1)), some (.int 0)], [])) (h' := (107, I, J, mm_rf 19 sp rr w nw)) 4 rfl ?_
            refine mm_T.mask [true, true, true, true, false] ?_
            exact ih y1 y2 (y3 + 1) I J 19 sp rr w nw (Or.inr rfl) out e kr ke
          · rw [if_neg h2155] at e
            refine mm_T.seg (f' := (139, [some (.ref 45), some (.int y1), some (.int y2), some (.int y3), some (.int 0)], [(.int y2), (.int y1), (.int y3), (.ref 45)])) (h' := (107, I, J, mm_rf 19 sp rr w nw)) 6 rfl ?_
            obtain ⟨o2156, eo2156, e⟩ := mm_bind e
            refine mm_T.call (t := 138) (as := [(.ref 45), (.int y3), (.int y1), (.int y2)]) (f' := (142, [some (.ref 45), some (.int y1), some (.int y2), some (.int y3), some (.int 0)], [])) rfl (mm_T.deep (tX9_placeIn d n rec hrec y3 y1 y2 I J 19 sp rr w nw (Or.inr rfl) o2156 eo2156) (by omega)) (fun v h hq => ?_)
            obtain ⟨rfl, rfl⟩ := hq
            refine mm_T.seg (f' := (76, [some (.ref 45), some (.int y1), some (.int y2), some (.int (y3 + 1)), some (.int 0)], [])) (h' := (107, o2156, J, mm_rf 19 sp rr w nw)) 4 rfl ?_
            refine mm_T.mask [true, true, true, true, false] ?_
            exact ih y1 y2 (y3 + 1) o2156 J 19 sp rr w nw (Or.inr rfl) out e kr ke
      · rw [if_neg h2149] at e
        cases e
        refine mm_T.mask [false, false, false, false, false] ?_
        exact ke _ _ rfl
set_option maxRecDepth 100000 in
set_option maxHeartbeats 4000000 in
theorem tX9_place_B (d n : Nat) (rec : Int32 → Int32 → (Nat → Nat → Int32) → Nat → Option ((Nat → Nat → Int32))) (hrec : ∀ (x1 : Int32) (x2 : Int32) (I : Nat → Nat → Int32) (J : Nat → Nat → Int64) (rv sp rr w nw : Nat), (rv = 3 ∨ rv = 19) → ∀ (out : (Nat → Nat → Int32)), rec x1 x2 I rv = some out → mm_T none d 137 (mm_ent 137 [(.ref 45), (.int x1), (.int x2)]) (107, I, J, mm_rf rv sp rr w nw) (fun v h => v = none ∧ h = (107, out, J, mm_rf rv sp rr w nw))) (x1 : Int32) (x2 : Int32) (I : Nat → Nat → Int32) (J : Nat → Nat → Int64) (rv sp rr w nw : Nat) (hrv : rv = 3 ∨ rv = 19) (out : (Nat → Nat → Int32)) (e : fX9_place_B n rec x1 x2 I rv = some out) : mm_T none (d + 3) 137 (mm_ent 137 [(.ref 45), (.int x1), (.int x2)]) (107, I, J, mm_rf rv sp rr w nw) (fun v h => v = none ∧ h = (107, out, J, mm_rf rv sp rr w nw)) := by
  rcases hrv with rfl | rfl
  · unfold fX9_place_B at e
    refine mm_T.seg (f' := (5, [some (.ref 45), some (.int x1), some (.int x2), none, none], [(.int (I 45 6)), (.int x2)])) (h' := (107, I, J, mm_rf 3 sp rr w nw)) 3 rfl ?_
    refine mm_T.br (c := x2 < (I 45 6)) (a := ((9, [some (.ref 45), some (.int x1), some (.int x2), none, none], []), (107, I, J, mm_rf 3 sp rr w nw))) (b := ((8, [some (.ref 45), some (.int x1), some (.int x2), none, none], []), (107, I, J, mm_rf 3 sp rr w nw))) rfl (fun h2137 => ?_) (fun h2137 => ?_)
    · rw [if_pos h2137] at e
      refine mm_T.seg (f' := (14, [some (.ref 45), some (.int x1), some (.int x2), none, none], [(.ref 18), (.int x1)])) (h' := (107, I, J, mm_rf 3 sp rr w nw)) 3 rfl ?_
      refine mm_T.seg (f' := (20, [some (.ref 45), some (.int x1), some (.int x2), none, none], [(.int (I 3 5)), (.int x1)])) (h' := (107, I, J, mm_rf 3 sp rr w nw)) 2 rfl ?_
      refine mm_T.br (c := x1 < (I 3 5)) (a := ((44, [some (.ref 45), some (.int x1), some (.int x2), none, none], []), (107, I, J, mm_rf 3 sp rr w nw))) (b := ((23, [some (.ref 45), some (.int x1), some (.int x2), none, none], []), (107, I, J, mm_rf 3 sp rr w nw))) rfl (fun h2138 => ?_) (fun h2138 => ?_)
      · rw [if_pos h2138] at e
        refine mm_T.seg (f' := (48, [some (.ref 45), some (.int x1), some (.int x2), none, none], [(.ref 18)])) (h' := (107, I, J, mm_rf 3 sp rr w nw)) 2 rfl ?_
        refine mm_T.seg (f' := (49, [some (.ref 45), some (.int x1), some (.int x2), none, none], [(.int x1), (.ref 18)])) (h' := (107, I, J, mm_rf 3 sp rr w nw)) 1 rfl ?_
        obtain ⟨g360, hg360⟩ : ∃ z, fX7_placeOf x1 I = z := ⟨_, rfl⟩
        try rw [hg360] at e
        refine mm_T.call (t := 112) (as := [(.ref 18), (.int x1)]) (f' := (52, [some (.ref 45), some (.int x1), some (.int x2), none, none], [])) rfl (tX7_placeOf (d + 1) x1 I J 3 sp rr w nw g360 hg360) (fun v h hq => ?_)
        obtain ⟨rfl, rfl⟩ := hq
        refine mm_T.seg (f' := (53, [some (.ref 45), some (.int x1), some (.int x2), none, none], [(.int (-1)), (.int g360)])) (h' := (107, I, J, mm_rf 3 sp rr w nw)) 1 rfl ?_
        refine mm_T.br (c := g360 = (-1)) (a := ((74, [some (.ref 45), some (.int x1), some (.int x2), none, none], []), (107, I, J, mm_rf 3 sp rr w nw))) (b := ((56, [some (.ref 45), some (.int x1), some (.int x2), none, none], []), (107, I, J, mm_rf 3 sp rr w nw))) rfl (fun h2139 => ?_) (fun h2139 => ?_)
        · rw [if_pos h2139] at e
          refine mm_T.seg (f' := (76, [some (.ref 45), some (.int x1), some (.int x2), some (.int 0), none], [])) (h' := (107, I, J, mm_rf 3 sp rr w nw)) 2 rfl ?_
          refine mm_T.mask [true, true, true, true, false] ?_
          obtain ⟨o2157, eo2157, e⟩ := mm_bind e
          rcases o2157 with ⟨va2158 | vb2158, vs2158_0⟩
          · cases e
            refine tlX9_place_L76 d _ rec hrec n x1 x2 0 I J 3 sp rr w nw (Or.inl rfl) _ eo2157 (fun z z0 hz => ?_) (fun z z0 hz => ?_)
            · cases hz; exact ⟨rfl, rfl⟩
            · cases hz
          · refine tlX9_place_L76 d _ rec hrec n x1 x2 0 I J 3 sp rr w nw (Or.inl rfl) (.inr vb2158, vs2158_0) eo2157 (fun z z0 hz => ?_) (fun z z0 hz => ?_)
            · cases hz
            · cases hz
              cases e
              exact mm_T.ret rfl ⟨rfl, rfl⟩
        · rw [if_neg h2139] at e
          refine mm_T.seg (f' := (60, [some (.ref 45), some (.int x1), some (.int x2), none, none], [(.ref 48)])) (h' := (107, I, J, mm_rf 3 sp rr w nw)) 2 rfl ?_
          refine mm_T.seg (f' := (62, [some (.ref 45), some (.int x1), some (.int x2), none, none], [(.int (-1)), (.int x1), (.ref 48)])) (h' := (107, I, J, mm_rf 3 sp rr w nw)) 2 rfl ?_
          refine mm_T.call (t := 205) (as := [(.ref 48), (.int x1), (.int (-1))]) (f' := (65, [some (.ref 45), some (.int x1), some (.int x2), none, none], [])) rfl (t_put _ 48 7 x1 (-1) I J (mm_rf 3 sp rr w nw) rfl rfl) (fun v h hq => ?_)
          obtain ⟨rfl, rfl⟩ := hq
          refine mm_T.seg (f' := (70, [some (.ref 45), some (.int x1), some (.int x2), none, none], [(.int x2), (.int (x1 + 1)), (.ref 45)])) (h' := (107, (mf_put I 48 7 x1 (-1)), J, mm_rf 3 sp rr w nw)) 5 rfl ?_
          obtain ⟨o2159, eo2159, e⟩ := mm_bind e
          refine mm_T.call (t := 137) (as := [(.ref 45), (.int (x1 + 1)), (.int x2)]) (f' := (73, [some (.ref 45), some (.int x1), some (.int x2), none, none], [])) rfl (mm_T.deep (hrec (x1 + 1) x2 (mf_put I 48 7 x1 (-1)) J 3 sp rr w nw (Or.inl rfl) o2159 eo2159) (by omega)) (fun v h hq => ?_)
          obtain ⟨rfl, rfl⟩ := hq
          cases e
          exact mm_T.ret rfl ⟨rfl, rfl⟩
      · rw [if_neg h2138] at e
        refine mm_T.seg (f' := (32, [some (.ref 45), some (.int x1), some (.int x2), none, none], [(.ref 48)])) (h' := (107, (mm_up I 45 6 x2), J, mm_rf 3 sp rr w nw)) 5 rfl ?_
        refine mm_T.seg (f' := (37, [some (.ref 45), some (.int x1), some (.int x2), none, none], [(.ref 49), (.int 0), (.ref 48)])) (h' := (107, (mm_up I 45 6 x2), J, mm_rf 3 sp rr w nw)) 3 rfl ?_
        refine mm_T.seg (f' := (43, [some (.ref 45), some (.int x1), some (.int x2), none, none], [])) (h' := (107, (mm_row (mm_up I 45 6 x2) 49 (va_cpy ((mm_up I 45 6 x2) 48) ((mm_up I 45 6 x2) 49) 0 0 7)), J, mm_rf 3 sp rr w nw)) 3 rfl ?_
        cases e
        exact mm_T.ret rfl ⟨rfl, rfl⟩
    · rw [if_neg h2137] at e
      cases e
      exact mm_T.ret rfl ⟨rfl, rfl⟩
  · unfold fX9_place_B at e
    refine mm_T.seg (f' := (5, [some (.ref 45), some (.int x1), some (.int x2), none, none], [(.int (I 45 6)), (.int x2)])) (h' := (107, I, J, mm_rf 19 sp rr w nw)) 3 rfl ?_
    refine mm_T.br (c := x2 < (I 45 6)) (a := ((9, [some (.ref 45), some (.int x1), some (.int x2), none, none], []), (107, I, J, mm_rf 19 sp rr w nw))) (b := ((8, [some (.ref 45), some (.int x1), some (.int x2), none, none], []), (107, I, J, mm_rf 19 sp rr w nw))) rfl (fun h2137 => ?_) (fun h2137 => ?_)
    · rw [if_pos h2137] at e
      refine mm_T.seg (f' := (14, [some (.ref 45), some (.int x1), some (.int x2), none, none], [(.ref 18), (.int x1)])) (h' := (107, I, J, mm_rf 19 sp rr w nw)) 3 rfl ?_
      refine mm_T.seg (f' := (20, [some (.ref 45), some (.int x1), some (.int x2), none, none], [(.int (I 19 5)), (.int x1)])) (h' := (107, I, J, mm_rf 19 sp rr w nw)) 2 rfl ?_
      refine mm_T.br (c := x1 < (I 19 5)) (a := ((44, [some (.ref 45), some (.int x1), some (.int x2), none, none], []), (107, I, J, mm_rf 19 sp rr w nw))) (b := ((23, [some (.ref 45), some (.int x1), some (.int x2), none, none], []), (107, I, J, mm_rf 19 sp rr w nw))) rfl (fun h2138 => ?_) (fun h2138 => ?_)
      · rw [if_pos h2138] at e
        refine mm_T.seg (f' := (48, [some (.ref 45), some (.int x1), some (.int x2), none, none], [(.ref 18)])) (h' := (107, I, J, mm_rf 19 sp rr w nw)) 2 rfl ?_
        refine mm_T.seg (f' := (49, [some (.ref 45), some (.int x1), some (.int x2), none, none], [(.int x1), (.ref 18)])) (h' := (107, I, J, mm_rf 19 sp rr w nw)) 1 rfl ?_
        obtain ⟨g360, hg360⟩ : ∃ z, fX7_placeOf x1 I = z := ⟨_, rfl⟩
        try rw [hg360] at e
        refine mm_T.call (t := 112) (as := [(.ref 18), (.int x1)]) (f' := (52, [some (.ref 45), some (.int x1), some (.int x2), none, none], [])) rfl (tX7_placeOf (d + 1) x1 I J 19 sp rr w nw g360 hg360) (fun v h hq => ?_)
        obtain ⟨rfl, rfl⟩ := hq
        refine mm_T.seg (f' := (53, [some (.ref 45), some (.int x1), some (.int x2), none, none], [(.int (-1)), (.int g360)])) (h' := (107, I, J, mm_rf 19 sp rr w nw)) 1 rfl ?_
        refine mm_T.br (c := g360 = (-1)) (a := ((74, [some (.ref 45), some (.int x1), some (.int x2), none, none], []), (107, I, J, mm_rf 19 sp rr w nw))) (b := ((56, [some (.ref 45), some (.int x1), some (.int x2), none, none], []), (107, I, J, mm_rf 19 sp rr w nw))) rfl (fun h2139 => ?_) (fun h2139 => ?_)
        · rw [if_pos h2139] at e
          refine mm_T.seg (f' := (76, [some (.ref 45), some (.int x1), some (.int x2), some (.int 0), none], [])) (h' := (107, I, J, mm_rf 19 sp rr w nw)) 2 rfl ?_
          refine mm_T.mask [true, true, true, true, false] ?_
          obtain ⟨o2157, eo2157, e⟩ := mm_bind e
          rcases o2157 with ⟨va2158 | vb2158, vs2158_0⟩
          · cases e
            refine tlX9_place_L76 d _ rec hrec n x1 x2 0 I J 19 sp rr w nw (Or.inr rfl) _ eo2157 (fun z z0 hz => ?_) (fun z z0 hz => ?_)
            · cases hz; exact ⟨rfl, rfl⟩
            · cases hz
          · refine tlX9_place_L76 d _ rec hrec n x1 x2 0 I J 19 sp rr w nw (Or.inr rfl) (.inr vb2158, vs2158_0) eo2157 (fun z z0 hz => ?_) (fun z z0 hz => ?_)
            · cases hz
            · cases hz
              cases e
              exact mm_T.ret rfl ⟨rfl, rfl⟩
        · rw [if_neg h2139] at e
          refine mm_T.seg (f' := (60, [some (.ref 45), some (.int x1), some (.int x2), none, none], [(.ref 48)])) (h' := (107, I, J, mm_rf 19 sp rr w nw)) 2 rfl ?_
          refine mm_T.seg (f' := (62, [some (.ref 45), some (.int x1), some (.int x2), none, none], [(.int (-1)), (.int x1), (.ref 48)])) (h' := (107, I, J, mm_rf 19 sp rr w nw)) 2 rfl ?_
          refine mm_T.call (t := 205) (as := [(.ref 48), (.int x1), (.int (-1))]) (f' := (65, [some (.ref 45), some (.int x1), some (.int x2), none, none], [])) rfl (t_put _ 48 7 x1 (-1) I J (mm_rf 19 sp rr w nw) rfl rfl) (fun v h hq => ?_)
          obtain ⟨rfl, rfl⟩ := hq
          refine mm_T.seg (f' := (70, [some (.ref 45), some (.int x1), some (.int x2), none, none], [(.int x2), (.int (x1 + 1)), (.ref 45)])) (h' := (107, (mf_put I 48 7 x1 (-1)), J, mm_rf 19 sp rr w nw)) 5 rfl ?_
          obtain ⟨o2159, eo2159, e⟩ := mm_bind e
          refine mm_T.call (t := 137) (as := [(.ref 45), (.int (x1 + 1)), (.int x2)]) (f' := (73, [some (.ref 45), some (.int x1), some (.int x2), none, none], [])) rfl (mm_T.deep (hrec (x1 + 1) x2 (mf_put I 48 7 x1 (-1)) J 19 sp rr w nw (Or.inr rfl) o2159 eo2159) (by omega)) (fun v h hq => ?_)
          obtain ⟨rfl, rfl⟩ := hq
          cases e
          exact mm_T.ret rfl ⟨rfl, rfl⟩
      · rw [if_neg h2138] at e
        refine mm_T.seg (f' := (32, [some (.ref 45), some (.int x1), some (.int x2), none, none], [(.ref 48)])) (h' := (107, (mm_up I 45 6 x2), J, mm_rf 19 sp rr w nw)) 5 rfl ?_
        refine mm_T.seg (f' := (37, [some (.ref 45), some (.int x1), some (.int x2), none, none], [(.ref 49), (.int 0), (.ref 48)])) (h' := (107, (mm_up I 45 6 x2), J, mm_rf 19 sp rr w nw)) 3 rfl ?_
        refine mm_T.seg (f' := (43, [some (.ref 45), some (.int x1), some (.int x2), none, none], [])) (h' := (107, (mm_row (mm_up I 45 6 x2) 49 (va_cpy ((mm_up I 45 6 x2) 48) ((mm_up I 45 6 x2) 49) 0 0 7)), J, mm_rf 19 sp rr w nw)) 3 rfl ?_
        cases e
        exact mm_T.ret rfl ⟨rfl, rfl⟩
    · rw [if_neg h2137] at e
      cases e
      exact mm_T.ret rfl ⟨rfl, rfl⟩
theorem tX9_place (d n : Nat) : ∀ (q : Nat) (x1 : Int32) (x2 : Int32) (I : Nat → Nat → Int32) (J : Nat → Nat → Int64) (rv sp rr w nw : Nat), (rv = 3 ∨ rv = 19) → ∀ (out : (Nat → Nat → Int32)), fX9_place n q x1 x2 I rv = some out → mm_T none (d + 3 * q) 137 (mm_ent 137 [(.ref 45), (.int x1), (.int x2)]) (107, I, J, mm_rf rv sp rr w nw) (fun v h => v = none ∧ h = (107, out, J, mm_rf rv sp rr w nw)) := by
  intro q
  induction q with
  | zero =>
    intro x1 x2 I J rv sp rr w nw hrv out e
    rw [fX9_place] at e; cases e
  | succ q ih =>
    intro x1 x2 I J rv sp rr w nw hrv out e
    rw [fX9_place] at e
    exact tX9_place_B (d + 3 * q) n (fX9_place n q) ih x1 x2 I J rv sp rr w nw hrv out e
