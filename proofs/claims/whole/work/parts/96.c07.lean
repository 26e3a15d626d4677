set_option maxRecDepth 100000 in
set_option maxHeartbeats 4000000 in
theorem tlX6_strokesToMeet_L50 (d : Nat) (Q : Option Value → mm_H → Prop) : ∀ (n : Nat) (y3 : Int32) (y4 : Int32) (y5 : Int32) (y6 : Int32) (I : Nat → Nat → Int32) (J : Nat → Nat → Int64) (rv sp rr w nw : Nat), (rv = 3 ∨ rv = 19) → ∀ (out : (Int32 ⊕ (Unit))), fX6_strokesToMeet_L50 n y3 y4 y5 y6 I rv = some out → (∀ (r : Int32), out = .inl r → Q (some (.int r)) (107, I, J, mm_rf rv sp rr w nw)) → (∀ (y : Unit), out = .inr y → mm_T none (d + 3) 94 (132, [none, none, none, none, none, none, none], []) (107, I, J, mm_rf rv sp rr w nw) Q) → mm_T none (d + 3) 94 (50, [some (.ref 37), none, none, some (.int y3), some (.int y4), some (.int y5), some (.int y6)], []) (107, I, J, mm_rf rv sp rr w nw) Q := by
  intro n
  induction n with
  | zero =>
    intro y3 y4 y5 y6 I J rv sp rr w nw hrv out e kr ke
    rw [fX6_strokesToMeet_L50] at e; cases e
  | succ n ih =>
    intro y3 y4 y5 y6 I J rv sp rr w nw hrv out e kr ke
    rcases hrv with rfl | rfl
    · rw [fX6_strokesToMeet_L50] at e
      refine mm_T.seg (f' := (58, [some (.ref 37), none, none, some (.int y3), some (.int y4), some (.int y5), some (.int y6)], [(.ref 18), (.int (y3 + y6))])) (h' := (107, I, J, mm_rf 3 sp rr w nw)) 5 rfl ?_
      refine mm_T.seg (f' := (64, [some (.ref 37), none, none, some (.int y3), some (.int y4), some (.int y5), some (.int y6)], [(.int (I 3 1)), (.int (y3 + y6))])) (h' := (107, I, J, mm_rf 3 sp rr w nw)) 2 rfl ?_
      refine mm_T.br (c := (I 3 1) < (y3 + y6)) (a := ((132, [some (.ref 37), none, none, some (.int y3), some (.int y4), some (.int y5), some (.int y6)], []), (107, I, J, mm_rf 3 sp rr w nw))) (b := ((67, [some (.ref 37), none, none, some (.int y3), some (.int y4), some (.int y5), some (.int y6)], []), (107, I, J, mm_rf 3 sp rr w nw))) rfl (fun h2001 => ?_) (fun h2001 => ?_)
      · rw [if_pos h2001] at e
        cases e
        refine mm_T.mask [false, false, false, false, false, false, false] ?_
        exact ke _ rfl
      · rw [if_neg h2001] at e
        refine mm_T.seg (f' := (79, [some (.ref 37), none, none, some (.int y3), some (.int y4), some (.int y5), some (.int y6)], [(.int (((y4 <<< ((1 : Int32) &&& 31)) ||| (y4 >>> ((1 : Int32) &&& 31))) &&& y5))])) (h' := (107, I, J, mm_rf 3 sp rr w nw)) 9 rfl ?_
        refine mm_T.br (c := (((y4 <<< ((1 : Int32) &&& 31)) ||| (y4 >>> ((1 : Int32) &&& 31))) &&& y5) = 0) (a := ((85, [some (.ref 37), none, none, some (.int y3), some (.int y4), some (.int y5), some (.int y6)], []), (107, I, J, mm_rf 3 sp rr w nw))) (b := ((82, [some (.ref 37), none, none, some (.int y3), some (.int y4), some (.int y5), some (.int y6)], []), (107, I, J, mm_rf 3 sp rr w nw))) rfl (fun h2002 => ?_) (fun h2002 => ?_)
        · rw [if_pos h2002] at e
          refine mm_T.seg (f' := (93, [some (.ref 37), none, none, some (.int y3), some (.int y4), some (.int y5), some (.int y6)], [(.ref 18), (.int (y3 + y6))])) (h' := (107, I, J, mm_rf 3 sp rr w nw)) 5 rfl ?_
          refine mm_T.seg (f' := (99, [some (.ref 37), none, none, some (.int y3), some (.int y4), some (.int y5), some (.int y6)], [(.int (I 3 1)), (.int (y3 + y6))])) (h' := (107, I, J, mm_rf 3 sp rr w nw)) 2 rfl ?_
          refine mm_T.br (c := (y3 + y6) < (I 3 1)) (a := ((102, [some (.ref 37), none, none, some (.int y3), some (.int y4), some (.int y5), some (.int y6)], []), (107, I, J, mm_rf 3 sp rr w nw))) (b := ((126, [some (.ref 37), none, none, some (.int y3), some (.int y4), some (.int y5), some (.int y6)], []), (107, I, J, mm_rf 3 sp rr w nw))) rfl (fun h2003 => ?_) (fun h2003 => ?_)
          · rw [if_pos h2003] at e
            refine mm_T.seg (f' := (109, [some (.ref 37), none, none, some (.int y3), some (.int y4), some (.int y5), some (.int y6)], [(.int (y3 + y6)), (.int y4), (.ref 37)])) (h' := (107, I, J, mm_rf 3 sp rr w nw)) 5 rfl ?_
            obtain ⟨o2004, eo2004, e⟩ := mm_bind e
            refine mm_T.call (t := 84) (as := [(.ref 37), (.int y4), (.int (y3 + y6))]) (f' := (112, [some (.ref 37), none, none, some (.int y3), some (.int y4), some (.int y5), some (.int y6)], [])) rfl (tX6_spread (d + 0) n y4 (y3 + y6) I J 3 sp rr w nw (Or.inl rfl) o2004 eo2004) (fun v h hq => ?_)
            obtain ⟨rfl, rfl⟩ := hq
            refine mm_T.seg (f' := (121, [some (.ref 37), none, none, some (.int y3), some (.int o2004), some (.int y5), some (.int y6)], [(.int (y3 + y6)), (.int y5), (.ref 37)])) (h' := (107, I, J, mm_rf 3 sp rr w nw)) 6 rfl ?_
            obtain ⟨o2005, eo2005, e⟩ := mm_bind e
            refine mm_T.call (t := 84) (as := [(.ref 37), (.int y5), (.int (y3 + y6))]) (f' := (124, [some (.ref 37), none, none, some (.int y3), some (.int o2004), some (.int y5), some (.int y6)], [])) rfl (tX6_spread (d + 0) n y5 (y3 + y6) I J 3 sp rr w nw (Or.inl rfl) o2005 eo2005) (fun v h hq => ?_)
            obtain ⟨rfl, rfl⟩ := hq
            refine mm_T.seg (f' := (50, [some (.ref 37), none, none, some (.int y3), some (.int o2004), some (.int o2005), some (.int (y6 + 1))], [])) (h' := (107, I, J, mm_rf 3 sp rr w nw)) 3 rfl ?_
            refine mm_T.mask [true, false, false, true, true, true, true] ?_
            exact ih y3 o2004 o2005 (y6 + 1) I J 3 sp rr w nw (Or.inl rfl) out e kr ke
          · rw [if_neg h2003] at e
            refine mm_T.seg (f' := (50, [some (.ref 37), none, none, some (.int y3), some (.int y4), some (.int y5), some (.int (y6 + 1))], [])) (h' := (107, I, J, mm_rf 3 sp rr w nw)) 2 rfl ?_
            refine mm_T.mask [true, false, false, true, true, true, true] ?_
            exact ih y3 y4 y5 (y6 + 1) I J 3 sp rr w nw (Or.inl rfl) out e kr ke
        · rw [if_neg h2002] at e
          refine mm_T.seg (f' := (84, [some (.ref 37), none, none, some (.int y3), some (.int y4), some (.int y5), some (.int y6)], [(.int y6)])) (h' := (107, I, J, mm_rf 3 sp rr w nw)) 1 rfl ?_
          cases e
          exact mm_T.ret rfl (kr _ rfl)
    · rw [fX6_strokesToMeet_L50] at e
      refine mm_T.seg (f' := (58, [some (.ref 37), none, none, some (.int y3), some (.int y4), some (.int y5), some (.int y6)], [(.ref 18), (.int (y3 + y6))])) (h' := (107, I, J, mm_rf 19 sp rr w nw)) 5 rfl ?_
      refine mm_T.seg (f' := (64, [some (.ref 37), none, none, some (.int y3), some (.int y4), some (.int y5), some (.int y6)], [(.int (I 19 1)), (.int (y3 + y6))])) (h' := (107, I, J, mm_rf 19 sp rr w nw)) 2 rfl ?_
      refine mm_T.br (c := (I 19 1) < (y3 + y6)) (a := ((132, [some (.ref 37), none, none, some (.int y3), some (.int y4), some (.int y5), some (.int y6)], []), (107, I, J, mm_rf 19 sp rr w nw))) (b := ((67, [some (.ref 37), none, none, some (.int y3), some (.int y4), some (.int y5), some (.int y6)], []), (107, I, J, mm_rf 19 sp rr w nw))) rfl (fun h2001 => ?_) (fun h2001 => ?_)
      · rw [if_pos h2001] at e
        cases e
        refine mm_T.mask [false, false, false, false, false, false, false] ?_
        exact ke _ rfl
      · rw [if_neg h2001] at e
        refine mm_T.seg (f' := (79, [some (.ref 37), none, none, some (.int y3), some (.int y4), some (.int y5), some (.int y6)], [(.int (((y4 <<< ((1 : Int32) &&& 31)) ||| (y4 >>> ((1 : Int32) &&& 31))) &&& y5))])) (h' := (107, I, J, mm_rf 19 sp rr w nw)) 9 rfl ?_
        refine mm_T.br (c := (((y4 <<< ((1 : Int32) &&& 31)) ||| (y4 >>> ((1 : Int32) &&& 31))) &&& y5) = 0) (a := ((85, [some (.ref 37), none, none, some (.int y3), some (.int y4), some (.int y5), some (.int y6)], []), (107, I, J, mm_rf 19 sp rr w nw))) (b := ((82, [some (.ref 37), none, none, some (.int y3), some (.int y4), some (.int y5), some (.int y6)], []), (107, I, J, mm_rf 19 sp rr w nw))) rfl (fun h2002 => ?_) (fun h2002 => ?_)
        · rw [if_pos h2002] at e
          refine mm_T.seg (f' := (93, [some (.ref 37), none, none, some (.int y3), some (.int y4), some (.int y5), some (.int y6)], [(.ref 18), (.int (y3 + y6))])) (h' := (107, I, J, mm_rf 19 sp rr w nw)) 5 rfl ?_
          refine mm_T.seg (f' := (99, [some (.ref 37), none, none, some (.int y3), some (.int y4), some (.int y5), some (.int y6)], [(.int (I 19 1)), (.int (y3 + y6))])) (h' := (107, I, J, mm_rf 19 sp rr w nw)) 2 rfl ?_
          refine mm_T.br (c := (y3 + y6) < (I 19 1)) (a := ((102, [some (.ref 37), none, none, some (.int y3), some (.int y4), some (.int y5), some (.int y6)], []), (107, I, J, mm_rf 19 sp rr w nw))) (b := ((126, [some (.ref 37), none, none, some (.int y3), some (.int y4), some (.int y5), some (.int y6)], []), (107, I, J, mm_rf 19 sp rr w nw))) rfl (fun h2003 => ?_) (fun h2003 => ?_)
          · rw [if_pos h2003] at e
            refine mm_T.seg (f' := (109, [some (.ref 37), none, none, some (.int y3), some (.int y4), some (.int y5), some (.int y6)], [(.int (y3 + y6)), (.int y4), (.ref 37)])) (h' := (107, I, J, mm_rf 19 sp rr w nw)) 5 rfl ?_
            obtain ⟨o2004, eo2004, e⟩ := mm_bind e
            refine mm_T.call (t := 84) (as := [(.ref 37), (.int y4), (.int (y3 + y6))]) (f' := (112, [some (.ref 37), none, none, some (.int y3), some (.int y4), some (.int y5), some (.int y6)], [])) rfl (tX6_spread (d + 0) n y4 (y3 + y6) I J 19 sp rr w nw (Or.inr rfl) o2004 eo2004) (fun v h hq => ?_)
            obtain ⟨rfl, rfl⟩ := hq
            refine mm_T.seg (f' := (121, [some (.ref 37), none, none, some (.int y3), some (.int o2004), some (.int y5), some (.int y6)], [(.int (y3 + y6)), (.int y5), (.ref 37)])) (h' := (107, I, J, mm_rf 19 sp rr w nw)) 6 rfl ?_
            obtain ⟨o2005, eo2005, e⟩ := mm_bind e
            refine mm_T.call (t := 84) (as := [(.ref 37), (.int y5), (.int (y3 + y6))]) (f' := (124, [some (.ref 37), none, none, some (.int y3), some (.int o2004), some (.int y5), some (.int y6)], [])) rfl (tX6_spread (d + 0) n y5 (y3 + y6) I J 19 sp rr w nw (Or.inr rfl) o2005 eo2005) (fun v h hq => ?_)
            obtain ⟨rfl, rfl⟩ := hq
            refine mm_T.seg (f' := (50, [some (.ref 37), none, none, some (.int y3), some (.int o2004), some (.int o2005), some (.int (y6 + 1))], [])) (h' := (107, I, J, mm_rf 19 sp rr w nw)) 3 rfl ?_
            refine mm_T.mask [true, false, false, true, true, true, true] ?_
            exact ih y3 o2004 o2005 (y6 + 1) I J 19 sp rr w nw (Or.inr rfl) out e kr ke
          · rw [if_neg h2003] at e
            refine mm_T.seg (f' := (50, [some (.ref 37), none, none, some (.int y3), some (.int y4), some (.int y5), some (.int (y6 + 1))], [])) (h' := (107, I, J, mm_rf 19 sp rr w nw)) 2 rfl ?_
            refine mm_T.mask [true, false, false, true, true, true, true] ?_
            exact ih y3 y4 y5 (y6 + 1) I J 19 sp rr w nw (Or.inr rfl) out e kr ke
        · rw [if_neg h2002] at e
          refine mm_T.seg (f' := (84, [some (.ref 37), none, none, some (.int y3), some (.int y4), some (.int y5), some (.int y6)], [(.int y6)])) (h' := (107, I, J, mm_rf 19 sp rr w nw)) 1 rfl ?_
          cases e
          exact mm_T.ret rfl (kr _ rfl)
set_option maxRecDepth 100000 in
set_option maxHeartbeats 4000000 in
theorem tX6_strokesToMeet (d n : Nat) (x1 : Int32) (x2 : Int32) (I : Nat → Nat → Int32) (J : Nat → Nat → Int64) (rv sp rr w nw : Nat) (hrv : rv = 3 ∨ rv = 19) (out : Int32) (e : fX6_strokesToMeet n x1 x2 I rv = some out) : mm_T none (d + 3) 94 (mm_ent 94 [(.ref 37), (.int x1), (.int x2)]) (107, I, J, mm_rf rv sp rr w nw) (fun v h => v = some (.int out) ∧ h = (107, I, J, mm_rf rv sp rr w nw)) := by
  rcases hrv with rfl | rfl
  · unfold fX6_strokesToMeet at e
    refine mm_T.seg (f' := (4, [some (.ref 37), some (.int x1), some (.int x2), none, none, none, none], [(.ref 18)])) (h' := (107, I, J, mm_rf 3 sp rr w nw)) 2 rfl ?_
    refine mm_T.seg (f' := (5, [some (.ref 37), some (.int x1), some (.int x2), none, none, none, none], [(.int x1), (.ref 18)])) (h' := (107, I, J, mm_rf 3 sp rr w nw)) 1 rfl ?_
    obtain ⟨g287, hg287⟩ : ∃ z, fX7_rowOf x1 I = z := ⟨_, rfl⟩
    try rw [hg287] at e
    refine mm_T.call (t := 106) (as := [(.ref 18), (.int x1)]) (f' := (8, [some (.ref 37), some (.int x1), some (.int x2), none, none, none, none], [])) rfl (tX7_rowOf (d + 0) x1 I J 3 sp rr w nw g287 hg287) (fun v h hq => ?_)
    obtain ⟨rfl, rfl⟩ := hq
    refine mm_T.seg (f' := (14, [some (.ref 37), some (.int x1), some (.int x2), some (.int g287), none, none, none], [(.ref 18), (.int g287)])) (h' := (107, I, J, mm_rf 3 sp rr w nw)) 4 rfl ?_
    refine mm_T.seg (f' := (15, [some (.ref 37), some (.int x1), some (.int x2), some (.int g287), none, none, none], [(.int x2), (.ref 18), (.int g287)])) (h' := (107, I, J, mm_rf 3 sp rr w nw)) 1 rfl ?_
    obtain ⟨g288, hg288⟩ : ∃ z, fX7_rowOf x2 I = z := ⟨_, rfl⟩
    try rw [hg288] at e
    refine mm_T.call (t := 106) (as := [(.ref 18), (.int x2)]) (f' := (18, [some (.ref 37), some (.int x1), some (.int x2), some (.int g287), none, none, none], [(.int g287)])) rfl (tX7_rowOf (d + 0) x2 I J 3 sp rr w nw g288 hg288) (fun v h hq => ?_)
    obtain ⟨rfl, rfl⟩ := hq
    refine mm_T.br (c := g287 = g288) (a := ((23, [some (.ref 37), some (.int x1), some (.int x2), some (.int g287), none, none, none], []), (107, I, J, mm_rf 3 sp rr w nw))) (b := ((21, [some (.ref 37), some (.int x1), some (.int x2), some (.int g287), none, none, none], []), (107, I, J, mm_rf 3 sp rr w nw))) rfl (fun h1995 => ?_) (fun h1995 => ?_)
    · rw [if_pos h1995] at e
      refine mm_T.seg (f' := (28, [some (.ref 37), some (.int x1), some (.int x2), some (.int g287), none, none, none], [(.ref 18), (.int 1)])) (h' := (107, I, J, mm_rf 3 sp rr w nw)) 3 rfl ?_
      refine mm_T.seg (f' := (29, [some (.ref 37), some (.int x1), some (.int x2), some (.int g287), none, none, none], [(.int x1), (.ref 18), (.int 1)])) (h' := (107, I, J, mm_rf 3 sp rr w nw)) 1 rfl ?_
      obtain ⟨g289, hg289⟩ : ∃ z, fX7_columnOf x1 I = z := ⟨_, rfl⟩
      try rw [hg289] at e
      refine mm_T.call (t := 105) (as := [(.ref 18), (.int x1)]) (f' := (32, [some (.ref 37), some (.int x1), some (.int x2), some (.int g287), none, none, none], [(.int 1)])) rfl (tX7_columnOf (d + 0) x1 I J 3 sp rr w nw g289 hg289) (fun v h hq => ?_)
      obtain ⟨rfl, rfl⟩ := hq
      refine mm_T.seg (f' := (40, [some (.ref 37), some (.int x1), some (.int x2), some (.int g287), some (.int ((1 : Int32) <<< (g289 &&& 31))), none, none], [(.ref 18), (.int 1)])) (h' := (107, I, J, mm_rf 3 sp rr w nw)) 5 rfl ?_
      refine mm_T.seg (f' := (41, [some (.ref 37), some (.int x1), some (.int x2), some (.int g287), some (.int ((1 : Int32) <<< (g289 &&& 31))), none, none], [(.int x2), (.ref 18), (.int 1)])) (h' := (107, I, J, mm_rf 3 sp rr w nw)) 1 rfl ?_
      obtain ⟨g290, hg290⟩ : ∃ z, fX7_columnOf x2 I = z := ⟨_, rfl⟩
      try rw [hg290] at e
      refine mm_T.call (t := 105) (as := [(.ref 18), (.int x2)]) (f' := (44, [some (.ref 37), some (.int x1), some (.int x2), some (.int g287), some (.int ((1 : Int32) <<< (g289 &&& 31))), none, none], [(.int 1)])) rfl (tX7_columnOf (d + 0) x2 I J 3 sp rr w nw g290 hg290) (fun v h hq => ?_)
      obtain ⟨rfl, rfl⟩ := hq
      refine mm_T.seg (f' := (50, [some (.ref 37), some (.int x1), some (.int x2), some (.int g287), some (.int ((1 : Int32) <<< (g289 &&& 31))), some (.int ((1 : Int32) <<< (g290 &&& 31))), some (.int 0)], [])) (h' := (107, I, J, mm_rf 3 sp rr w nw)) 4 rfl ?_
      refine mm_T.mask [true, false, false, true, true, true, true] ?_
      obtain ⟨o2006, eo2006, e⟩ := mm_bind e
      rcases o2006 with va2007 | vb2007
      · cases e
        refine tlX6_strokesToMeet_L50 d _ n g287 ((1 : Int32) <<< (g289 &&& 31)) ((1 : Int32) <<< (g290 &&& 31)) 0 I J 3 sp rr w nw (Or.inl rfl) _ eo2006 (fun z hz => ?_) (fun z hz => ?_)
        · cases hz; exact ⟨rfl, rfl⟩
        · cases hz
      · refine tlX6_strokesToMeet_L50 d _ n g287 ((1 : Int32) <<< (g289 &&& 31)) ((1 : Int32) <<< (g290 &&& 31)) 0 I J 3 sp rr w nw (Or.inl rfl) (.inr vb2007) eo2006 (fun z hz => ?_) (fun z hz => ?_)
        · cases hz
        · cases hz
          refine mm_T.seg (f' := (133, [none, none, none, none, none, none, none], [(.int (-1))])) (h' := (107, I, J, mm_rf 3 sp rr w nw)) 1 rfl ?_
          cases e
          exact mm_T.ret rfl ⟨rfl, rfl⟩
    · rw [if_neg h1995] at e
      refine mm_T.seg (f' := (22, [some (.ref 37), some (.int x1), some (.int x2), some (.int g287), none, none, none], [(.int (-1))])) (h' := (107, I, J, mm_rf 3 sp rr w nw)) 1 rfl ?_
      cases e
      exact mm_T.ret rfl ⟨rfl, rfl⟩
  · unfold fX6_strokesToMeet at e
    refine mm_T.seg (f' := (4, [some (.ref 37), some (.int x1), some (.int x2), none, none, none, none], [(.ref 18)])) (h' := (107, I, J, mm_rf 19 sp rr w nw)) 2 rfl ?_
    refine mm_T.seg (f' := (5, [some (.ref 37), some (.int x1), some (.int x2), none, none, none, none], [(.int x1), (.ref 18)])) (h' := (107, I, J, mm_rf 19 sp rr w nw)) 1 rfl ?_
    obtain ⟨g287, hg287⟩ : ∃ z, fX7_rowOf x1 I = z := ⟨_, rfl⟩
    try rw [hg287] at e
    refine mm_T.call (t := 106) (as := [(.ref 18), (.int x1)]) (f' := (8, [some (.ref 37), some (.int x1), some (.int x2), none, none, none, none], [])) rfl (tX7_rowOf (d + 0) x1 I J 19 sp rr w nw g287 hg287) (fun v h hq => ?_)
    obtain ⟨rfl, rfl⟩ := hq
    refine mm_T.seg (f' := (14, [some (.ref 37), some (.int x1), some (.int x2), some (.int g287), none, none, none], [(.ref 18), (.int g287)])) (h' := (107, I, J, mm_rf 19 sp rr w nw)) 4 rfl ?_
    refine mm_T.seg (f' := (15, [some (.ref 37), some (.int x1), some (.int x2), some (.int g287), none, none, none], [(.int x2), (.ref 18), (.int g287)])) (h' := (107, I, J, mm_rf 19 sp rr w nw)) 1 rfl ?_
    obtain ⟨g288, hg288⟩ : ∃ z, fX7_rowOf x2 I = z := ⟨_, rfl⟩
    try rw [hg288] at e
    refine mm_T.call (t := 106) (as := [(.ref 18), (.int x2)]) (f' := (18, [some (.ref 37), some (.int x1), some (.int x2), some (.int g287), none, none, none], [(.int g287)])) rfl (tX7_rowOf (d + 0) x2 I J 19 sp rr w nw g288 hg288) (fun v h hq => ?_)
    obtain ⟨rfl, rfl⟩ := hq
    refine mm_T.br (c := g287 = g288) (a := ((23, [some (.ref 37), some (.int x1), some (.int x2), some (.int g287), none, none, none], []), (107, I, J, mm_rf 19 sp rr w nw))) (b := ((21, [some (.ref 37), some (.int x1), some (.int x2), some (.int g287), none, none, none], []), (107, I, J, mm_rf 19 sp rr w nw))) rfl (fun h1995 => ?_) (fun h1995 => ?_)
    · rw [if_pos h1995] at e
      refine mm_T.seg (f' := (28, [some (.ref 37), some (.int x1), some (.int x2), some (.int g287), none, none, none], [(.ref 18), (.int 1)])) (h' := (107, I, J, mm_rf 19 sp rr w nw)) 3 rfl ?_
      refine mm_T.seg (f' := (29, [some (.ref 37), some (.int x1), some (.int x2), some (.int g287), none, none, none], [(.int x1), (.ref 18), (.int 1)])) (h' := (107, I, J, mm_rf 19 sp rr w nw)) 1 rfl ?_
      obtain ⟨g289, hg289⟩ : ∃ z, fX7_columnOf x1 I = z := ⟨_, rfl⟩
      try rw [hg289] at e
      refine mm_T.call (t := 105) (as := [(.ref 18), (.int x1)]) (f' := (32, [some (.ref 37), some (.int x1), some (.int x2), some (.int g287), none, none, none], [(.int 1)])) rfl (tX7_columnOf (d + 0) x1 I J 19 sp rr w nw g289 hg289) (fun v h hq => ?_)
      obtain ⟨rfl, rfl⟩ := hq
      refine mm_T.seg (f' := (40, [some (.ref 37), some (.int x1), some (.int x2), some (.int g287), some (.int ((1 : Int32) <<< (g289 &&& 31))), none, none], [(.ref 18), (.int 1)])) (h' := (107, I, J, mm_rf 19 sp rr w nw)) 5 rfl ?_
      refine mm_T.seg (f' := (41, [some (.ref 37), some (.int x1), some (.int x2), some (.int g287), some (.int ((1 : Int32) <<< (g289 &&& 31))), none, none], [(.int x2), (.ref 18), (.int 1)])) (h' := (107, I, J, mm_rf 19 sp rr w nw)) 1 rfl ?_
      obtain ⟨g290, hg290⟩ : ∃ z, fX7_columnOf x2 I = z := ⟨_, rfl⟩
      try rw [hg290] at e
      refine mm_T.call (t := 105) (as := [(.ref 18), (.int x2)]) (f' := (44, [some (.ref 37), some (.int x1), some (.int x2), some (.int g287), some (.int ((1 : Int32) <<< (g289 &&& 31))), none, none], [(.int 1)])) rfl (tX7_columnOf (d + 0) x2 I J 19 sp rr w nw g290 hg290) (fun v h hq => ?_)
      obtain ⟨rfl, rfl⟩ := hq
      refine mm_T.seg (f' := (50, [some (.ref 37), some (.int x1), some (.int x2), some (.int g287), some (.int ((1 : Int32) <<< (g289 &&& 31))), some (.int ((1 : Int32) <<< (g290 &&& 31))), some (.int 0)], [])) (h' := (107, I, J, mm_rf 19 sp rr w nw)) 4 rfl ?_
      refine mm_T.mask [true, false, false, true, true, true, true] ?_
      obtain ⟨o2006, eo2006, e⟩ := mm_bind e
      rcases o2006 with va2007 | vb2007
      · cases e
        refine tlX6_strokesToMeet_L50 d _ n g287 ((1 : Int32) <<< (g289 &&& 31)) ((1 : Int32) <<< (g290 &&& 31)) 0 I J 19 sp rr w nw (Or.inr rfl) _ eo2006 (fun z hz => ?_) (fun z hz => ?_)
        · cases hz; exact ⟨rfl, rfl⟩
        · cases hz
      · refine tlX6_strokesToMeet_L50 d _ n g287 ((1 : Int32) <<< (g289 &&& 31)) ((1 : Int32) <<< (g290 &&& 31)) 0 I J 19 sp rr w nw (Or.inr rfl) (.inr vb2007) eo2006 (fun z hz => ?_) (fun z hz => ?_)
        · cases hz
        · cases hz
          refine mm_T.seg (f' := (133, [none, none, none, none, none, none, none], [(.int (-1))])) (h' := (107, I, J, mm_rf 19 sp rr w nw)) 1 rfl ?_
          cases e
          exact mm_T.ret rfl ⟨rfl, rfl⟩
    · rw [if_neg h1995] at e
      refine mm_T.seg (f' := (22, [some (.ref 37), some (.int x1), some (.int x2), some (.int g287), none, none, none], [(.int (-1))])) (h' := (107, I, J, mm_rf 19 sp rr w nw)) 1 rfl ?_
      cases e
      exact mm_T.ret rfl ⟨rfl, rfl⟩
set_option maxRecDepth 100000 in
set_option maxHeartbeats 4000000 in
theorem tX7_strokesLeft (d : Nat) (x1 : Int32) (I : Nat → Nat → Int32) (J : Nat → Nat → Int64) (rv sp rr w nw : Nat) (hrv : rv = 3 ∨ rv = 19) (out : Int32) (e : fX7_strokesLeft x1 I rv = out) : mm_T none (d + 3) 111 (mm_ent 111 [(.ref 18), (.int x1)]) (107, I, J, mm_rf rv sp rr w nw) (fun v h => v = some (.int out) ∧ h = (107, I, J, mm_rf rv sp rr w nw)) := by
  rcases hrv with rfl | rfl
  · unfold fX7_strokesLeft at e
    refine mm_T.seg (f' := (4, [some (.ref 18), some (.int x1)], [(.ref 3)])) (h' := (107, I, J, mm_rf 3 sp rr w nw)) 2 rfl ?_
    refine mm_T.seg (f' := (9, [some (.ref 18), some (.int x1)], [(.int x1), (.ref 18), (.int (I 3 1))])) (h' := (107, I, J, mm_rf 3 sp rr w nw)) 3 rfl ?_
    obtain ⟨g291, hg291⟩ : ∃ z, fX7_rowOf x1 I = z := ⟨_, rfl⟩
    try rw [hg291] at e
    refine mm_T.call (t := 106) (as := [(.ref 18), (.int x1)]) (f' := (12, [some (.ref 18), some (.int x1)], [(.int (I 3 1))])) rfl (tX7_rowOf (d + 0) x1 I J 3 sp rr w nw g291 hg291) (fun v h hq => ?_)
    obtain ⟨rfl, rfl⟩ := hq
    refine mm_T.seg (f' := (13, [some (.ref 18), some (.int x1)], [(.int ((I 3 1) - g291))])) (h' := (107, I, J, mm_rf 3 sp rr w nw)) 1 rfl ?_
    cases e
    exact mm_T.ret rfl ⟨rfl, rfl⟩
  · unfold fX7_strokesLeft at e
    refine mm_T.seg (f' := (4, [some (.ref 18), some (.int x1)], [(.ref 19)])) (h' := (107, I, J, mm_rf 19 sp rr w nw)) 2 rfl ?_
    refine mm_T.seg (f' := (9, [some (.ref 18), some (.int x1)], [(.int x1), (.ref 18), (.int (I 19 1))])) (h' := (107, I, J, mm_rf 19 sp rr w nw)) 3 rfl ?_
    obtain ⟨g291, hg291⟩ : ∃ z, fX7_rowOf x1 I = z := ⟨_, rfl⟩
    try rw [hg291] at e
    refine mm_T.call (t := 106) (as := [(.ref 18), (.int x1)]) (f' := (12, [some (.ref 18), some (.int x1)], [(.int (I 19 1))])) rfl (tX7_rowOf (d + 0) x1 I J 19 sp rr w nw g291 hg291) (fun v h hq => ?_)
    obtain ⟨rfl, rfl⟩ := hq
    refine mm_T.seg (f' := (13, [some (.ref 18), some (.int x1)], [(.int ((I 19 1) - g291))])) (h' := (107, I, J, mm_rf 19 sp rr w nw)) 1 rfl ?_
    cases e
    exact mm_T.ret rfl ⟨rfl, rfl⟩
set_option maxRecDepth 100000 in
set_option maxHeartbeats 4000000 in
theorem tX6_flowTo (d : Nat) (x1 : Int32) (x2 : Int32) (x3 : Int32) (I : Nat → Nat → Int32) (J : Nat → Nat → Int64) (rv sp rr w nw : Nat) (hrv : rv = 3 ∨ rv = 19) (hnw : nw = 39 ∨ nw = 40) (out : (Nat → Nat → Int32)) (e : fX6_flowTo x1 x2 x3 I rv nw = out) : mm_T none (d + 2) 97 (mm_ent 97 [(.ref 37), (.int x1), (.int x2), (.int x3)]) (107, I, J, mm_rf rv sp rr w nw) (fun v h => v = none ∧ h = (107, out, J, mm_rf rv sp rr w nw)) := by
  rcases hrv, hnw with ⟨rfl | rfl, rfl | rfl⟩
  · unfold fX6_flowTo at e
    refine mm_T.seg (f' := (4, [some (.ref 37), some (.int x1), some (.int x2), some (.int x3)], [(.ref 18)])) (h' := (107, I, J, mm_rf 3 sp rr w 39)) 2 rfl ?_
    refine mm_T.seg (f' := (9, [some (.ref 37), some (.int x1), some (.int x2), some (.int x3)], [(.int x2), (.int x1), (.ref 3)])) (h' := (107, I, J, mm_rf 3 sp rr w 39)) 3 rfl ?_
    obtain ⟨g296, hg296⟩ : ∃ z, fX5_ironAt x1 x2 3 I = z := ⟨_, rfl⟩
    try rw [hg296] at e
    refine mm_T.call (t := 69) (as := [(.ref 3), (.int x1), (.int x2)]) (f' := (12, [some (.ref 37), some (.int x1), some (.int x2), some (.int x3)], [])) rfl (tX5_ironAt (d + 0) x1 x2 3 I J 3 sp rr w 39 (Or.inl rfl) g296 hg296) (fun v h hq => ?_)
    obtain ⟨rfl, rfl⟩ := hq
    refine mm_T.br (c := g296 = 0) (a := ((15, [some (.ref 37), some (.int x1), some (.int x2), some (.int x3)], []), (107, I, J, mm_rf 3 sp rr w 39))) (b := ((33, [some (.ref 37), some (.int x1), some (.int x2), some (.int x3)], []), (107, I, J, mm_rf 3 sp rr w 39))) rfl (fun h2011 => ?_) (fun h2011 => ?_)
    · rw [if_pos h2011] at e
      refine mm_T.seg (f' := (19, [some (.ref 37), some (.int x1), some (.int x2), some (.int x3)], [(.ref 39)])) (h' := (107, I, J, mm_rf 3 sp rr w 39)) 2 rfl ?_
      refine mm_T.seg (f' := (24, [some (.ref 37), some (.int x1), some (.int x2), some (.int x3)], [(.ref 39), (.int x1), (.ref 39)])) (h' := (107, I, J, mm_rf 3 sp rr w 39)) 3 rfl ?_
      refine mm_T.seg (f' := (25, [some (.ref 37), some (.int x1), some (.int x2), some (.int x3)], [(.int x1), (.ref 39), (.int x1), (.ref 39)])) (h' := (107, I, J, mm_rf 3 sp rr w 39)) 1 rfl ?_
      refine mm_T.call (t := 204) (as := [(.ref 39), (.int x1)]) (f' := (28, [some (.ref 37), some (.int x1), some (.int x2), some (.int x3)], [(.int x1), (.ref 39)])) rfl (t_pick _ 39 8 x1 I J (mm_rf 3 sp rr w 39) rfl rfl) (fun v h hq => ?_)
      obtain ⟨rfl, rfl⟩ := hq
      refine mm_T.seg (f' := (30, [some (.ref 37), some (.int x1), some (.int x2), some (.int x3)], [(.int ((mf_pick I 39 8 x1) + x3)), (.int x1), (.ref 39)])) (h' := (107, I, J, mm_rf 3 sp rr w 39)) 2 rfl ?_
      refine mm_T.call (t := 205) (as := [(.ref 39), (.int x1), (.int ((mf_pick I 39 8 x1) + x3))]) (f' := (33, [some (.ref 37), some (.int x1), some (.int x2), some (.int x3)], [])) rfl (t_put _ 39 8 x1 ((mf_pick I 39 8 x1) + x3) I J (mm_rf 3 sp rr w 39) rfl rfl) (fun v h hq => ?_)
      obtain ⟨rfl, rfl⟩ := hq
      cases e
      exact mm_T.ret rfl ⟨rfl, rfl⟩
    · rw [if_neg h2011] at e
      cases e
      exact mm_T.ret rfl ⟨rfl, rfl⟩
  · unfold fX6_flowTo at e
    refine mm_T.seg (f' := (4, [some (.ref 37), some (.int x1), some (.int x2), some (.int x3)], [(.ref 18)])) (h' := (107, I, J, mm_rf 3 sp rr w 40)) 2 rfl ?_
    refine mm_T.seg (f' := (9, [some (.ref 37), some (.int x1), some (.int x2), some (.int x3)], [(.int x2), (.int x1), (.ref 3)])) (h' := (107, I, J, mm_rf 3 sp rr w 40)) 3 rfl ?_
    obtain ⟨g296, hg296⟩ : ∃ z, fX5_ironAt x1 x2 3 I = z := ⟨_, rfl⟩
    try rw [hg296] at e
    refine mm_T.call (t := 69) (as := [(.ref 3), (.int x1), (.int x2)]) (f' := (12, [some (.ref 37), some (.int x1), some (.int x2), some (.int x3)], [])) rfl (tX5_ironAt (d + 0) x1 x2 3 I J 3 sp rr w 40 (Or.inl rfl) g296 hg296) (fun v h hq => ?_)
    obtain ⟨rfl, rfl⟩ := hq
    refine mm_T.br (c := g296 = 0) (a := ((15, [some (.ref 37), some (.int x1), some (.int x2), some (.int x3)], []), (107, I, J, mm_rf 3 sp rr w 40))) (b := ((33, [some (.ref 37), some (.int x1), some (.int x2), some (.int x3)], []), (107, I, J, mm_rf 3 sp rr w 40))) rfl (fun h2011 => ?_) (fun h2011 => ?_)
    · rw [if_pos h2011] at e
      refine mm_T.seg (f' := (19, [some (.ref 37), some (.int x1), some (.int x2), some (.int x3)], [(.ref 40)])) (h' := (107, I, J, mm_rf 3 sp rr w 40)) 2 rfl ?_
      refine mm_T.seg (f' := (24, [some (.ref 37), some (.int x1), some (.int x2), some (.int x3)], [(.ref 40), (.int x1), (.ref 40)])) (h' := (107, I, J, mm_rf 3 sp rr w 40)) 3 rfl ?_
      refine mm_T.seg (f' := (25, [some (.ref 37), some (.int x1), some (.int x2), some (.int x3)], [(.int x1), (.ref 40), (.int x1), (.ref 40)])) (h' := (107, I, J, mm_rf 3 sp rr w 40)) 1 rfl ?_
      refine mm_T.call (t := 204) (as := [(.ref 40), (.int x1)]) (f' := (28, [some (.ref 37), some (.int x1), some (.int x2), some (.int x3)], [(.int x1), (.ref 40)])) rfl (t_pick _ 40 8 x1 I J (mm_rf 3 sp rr w 40) rfl rfl) (fun v h hq => ?_)
      obtain ⟨rfl, rfl⟩ := hq
      refine mm_T.seg (f' := (30, [some (.ref 37), some (.int x1), some (.int x2), some (.int x3)], [(.int ((mf_pick I 40 8 x1) + x3)), (.int x1), (.ref 40)])) (h' := (107, I, J, mm_rf 3 sp rr w 40)) 2 rfl ?_
      refine mm_T.call (t := 205) (as := [(.ref 40), (.int x1), (.int ((mf_pick I 40 8 x1) + x3))]) (f' := (33, [some (.ref 37), some (.int x1), some (.int x2), some (.int x3)], [])) rfl (t_put _ 40 8 x1 ((mf_pick I 40 8 x1) + x3) I J (mm_rf 3 sp rr w 40) rfl rfl) (fun v h hq => ?_)
      obtain ⟨rfl, rfl⟩ := hq
      cases e
      exact mm_T.ret rfl ⟨rfl, rfl⟩
    · rw [if_neg h2011] at e
      cases e
      exact mm_T.ret rfl ⟨rfl, rfl⟩
  · unfold fX6_flowTo at e
    refine mm_T.seg (f' := (4, [some (.ref 37), some (.int x1), some (.int x2), some (.int x3)], [(.ref 18)])) (h' := (107, I, J, mm_rf 19 sp rr w 39)) 2 rfl ?_
    refine mm_T.seg (f' := (9, [some (.ref 37), some (.int x1), some (.int x2), some (.int x3)], [(.int x2), (.int x1), (.ref 19)])) (h' := (107, I, J, mm_rf 19 sp rr w 39)) 3 rfl ?_
    obtain ⟨g296, hg296⟩ : ∃ z, fX5_ironAt x1 x2 19 I = z := ⟨_, rfl⟩
    try rw [hg296] at e
    refine mm_T.call (t := 69) (as := [(.ref 19), (.int x1), (.int x2)]) (f' := (12, [some (.ref 37), some (.int x1), some (.int x2), some (.int x3)], [])) rfl (tX5_ironAt (d + 0) x1 x2 19 I J 19 sp rr w 39 (Or.inr rfl) g296 hg296) (fun v h hq => ?_)
    obtain ⟨rfl, rfl⟩ := hq
    refine mm_T.br (c := g296 = 0) (a := ((15, [some (.ref 37), some (.int x1), some (.int x2), some (.int x3)], []), (107, I, J, mm_rf 19 sp rr w 39))) (b := ((33, [some (.ref 37), some (.int x1), some (.int x2), some (.int x3)], []), (107, I, J, mm_rf 19 sp rr w 39))) rfl (fun h2011 => ?_) (fun h2011 => ?_)
    · rw [if_pos h2011] at e
      refine mm_T.seg (f' := (19, [some (.ref 37), some (.int x1), some (.int x2), some (.int x3)], [(.ref 39)])) (h' := (107, I, J, mm_rf 19 sp rr w 39)) 2 rfl ?_
      refine mm_T.seg (f' := (24, [some (.ref 37), some (.int x1), some (.int x2), some (.int x3)], [(.ref 39), (.int x1), (.ref 39)])) (h' := (107, I, J, mm_rf 19 sp rr w 39)) 3 rfl ?_
      refine mm_T.seg (f' := (25, [some (.ref 37), some (.int x1), some (.int x2), some (.int x3)], [(.int x1), (.ref 39), (.int x1), (.ref 39)])) (h' := (107, I, J, mm_rf 19 sp rr w 39)) 1 rfl ?_
      refine mm_T.call (t := 204) (as := [(.ref 39), (.int x1)]) (f' := (28, [some (.ref 37), some (.int x1), some (.int x2), some (.int x3)], [(.int x1), (.ref 39)])) rfl (t_pick _ 39 8 x1 I J (mm_rf 19 sp rr w 39) rfl rfl) (fun v h hq => ?_)
      obtain ⟨rfl, rfl⟩ := hq
      refine mm_T.seg (f' := (30, [some (.ref 37), some (.int x1), some (.int x2), some (.int x3)], [(.int ((mf_pick I 39 8 x1) + x3)), (.int x1), (.ref 39)])) (h' := (107, I, J, mm_rf 19 sp rr w 39)) 2 rfl ?_
      refine mm_T.call (t := 205) (as := [(.ref 39), (.int x1), (.int ((mf_pick I 39 8 x1) + x3))]) (f' := (33, [some (.ref 37), some (.int x1), some (.int x2), some (.int x3)], [])) rfl (t_put _ 39 8 x1 ((mf_pick I 39 8 x1) + x3) I J (mm_rf 19 sp rr w 39) rfl rfl) (fun v h hq => ?_)
      obtain ⟨rfl, rfl⟩ := hq
      cases e
      exact mm_T.ret rfl ⟨rfl, rfl⟩
    · rw [if_neg h2011] at e
      cases e
      exact mm_T.ret rfl ⟨rfl, rfl⟩
  · unfold fX6_flowTo at e
    refine mm_T.seg (f' := (4, [some (.ref 37), some (.int x1), some (.int x2), some (.int x3)], [(.ref 18)])) (h' := (107, I, J, mm_rf 19 sp rr w 40)) 2 rfl ?_
    refine mm_T.seg (f' := (9, [some (.ref 37), some (.int x1), some (.int x2), some (.int x3)], [(.int x2), (.int x1), (.ref 19)])) (h' := (107, I, J, mm_rf 19 sp rr w 40)) 3 rfl ?_
    obtain ⟨g296, hg296⟩ : ∃ z, fX5_ironAt x1 x2 19 I = z := ⟨_, rfl⟩
    try rw [hg296] at e
    refine mm_T.call (t := 69) (as := [(.ref 19), (.int x1), (.int x2)]) (f' := (12, [some (.ref 37), some (.int x1), some (.int x2), some (.int x3)], [])) rfl (tX5_ironAt (d + 0) x1 x2 19 I J 19 sp rr w 40 (Or.inr rfl) g296 hg296) (fun v h hq => ?_)
    obtain ⟨rfl, rfl⟩ := hq
    refine mm_T.br (c := g296 = 0) (a := ((15, [some (.ref 37), some (.int x1), some (.int x2), some (.int x3)], []), (107, I, J, mm_rf 19 sp rr w 40))) (b := ((33, [some (.ref 37), some (.int x1), some (.int x2), some (.int x3)], []), (107, I, J, mm_rf 19 sp rr w 40))) rfl (fun h2011 => ?_) (fun h2011 => ?_)
    · rw [if_pos h2011] at e
      refine mm_T.seg (f' := (19, [some (.ref 37), some (.int x1), some (.int x2), some (.int x3)], [(.ref 40)])) (h' := (107, I, J, mm_rf 19 sp rr w 40)) 2 rfl ?_
      refine mm_T.seg (f' := (24, [some (.ref 37), some (.int x1), some (.int x2), some (.int x3)], [(.ref 40), (.int x1), (.ref 40)])) (h' := (107, I, J, mm_rf 19 sp rr w 40)) 3 rfl ?_
      refine mm_T.seg (f' := (25, [some (.ref 37), some (.int x1), some (.int x2), some (.int x3)], [(.int x1), (.ref 40), (.int x1), (.ref 40)])) (h' := (107, I, J, mm_rf 19 sp rr w 40)) 1 rfl ?_
      refine mm_T.call (t := 204) (as := [(.ref 40), (.int x1)]) (f' := (28, [some (.ref 37), some (.int x1), some (.int x2), some (.int x3)], [(.int x1), (.ref 40)])) rfl (t_pick _ 40 8 x1 I J (mm_rf 19 sp rr w 40) rfl rfl) (fun v h hq => ?_)
      obtain ⟨rfl, rfl⟩ := hq
      refine mm_T.seg (f' := (30, [some (.ref 37), some (.int x1), some (.int x2), some (.int x3)], [(.int ((mf_pick I 40 8 x1) + x3)), (.int x1), (.ref 40)])) (h' := (107, I, J, mm_rf 19 sp rr w 40)) 2 rfl ?_
      refine mm_T.call (t := 205) (as := [(.ref 40), (.int x1), (.int ((mf_pick I 40 8 x1) + x3))]) (f' := (33, [some (.ref 37), some (.int x1), some (.int x2), some (.int x3)], [])) rfl (t_put _ 40 8 x1 ((mf_pick I 40 8 x1) + x3) I J (mm_rf 19 sp rr w 40) rfl rfl) (fun v h hq => ?_)
      obtain ⟨rfl, rfl⟩ := hq
      cases e
      exact mm_T.ret rfl ⟨rfl, rfl⟩
    · rw [if_neg h2011] at e
      cases e
      exact mm_T.ret rfl ⟨rfl, rfl⟩

set_option maxRecDepth 100000 in
set_option maxHeartbeats 4000000 in
theorem tlX6_commonPart_L7 (d : Nat) (Q : Option Value → mm_H → Prop) : ∀ (n : Nat) (y2 : Int32) (y3 : Int32) (y4 : Int32) (I : Nat → Nat → Int32) (J : Nat → Nat → Int64) (rv sp rr w nw : Nat), ∀ (out : Int32), fX6_commonPart_L7 n y2 y3 y4 = some out → mm_T none (d + 0) 98 (34, [none, none, some (.int out), none, none, none], []) (107, I, J, mm_rf rv sp rr w nw) Q → mm_T none (d + 0) 98 (7, [none, none, some (.int y2), some (.int y3), some (.int y4), none], []) (107, I, J, mm_rf rv sp rr w nw) Q := by
  intro n
  induction n with
  | zero =>
    intro y2 y3 y4 I J rv sp rr w nw out e k
    rw [fX6_commonPart_L7] at e; cases e
  | succ n ih =>
    intro y2 y3 y4 I J rv sp rr w nw out e k
    rw [fX6_commonPart_L7] at e
    refine mm_T.seg (f' := (11, [none, none, some (.int y2), some (.int y3), some (.int y4), none], [(.int 100), (.int y4)])) (h' := (107, I, J, mm_rf rv sp rr w nw)) 2 rfl ?_
    refine mm_T.br (c := y4 < 100) (a := ((14, [none, none, some (.int y2), some (.int y3), some (.int y4), none], []), (107, I, J, mm_rf rv sp rr w nw))) (b := ((34, [none, none, some (.int y2), some (.int y3), some (.int y4), none], []), (107, I, J, mm_rf rv sp rr w nw))) rfl (fun h2018 => ?_) (fun h2018 => ?_)
    · rw [if_pos h2018] at e
      refine mm_T.seg (f' := (15, [none, none, some (.int y2), some (.int y3), some (.int y4), none], [(.int y3)])) (h' := (107, I, J, mm_rf rv sp rr w nw)) 1 rfl ?_
      refine mm_T.br (c := y3 = 0) (a := ((34, [none, none, some (.int y2), some (.int y3), some (.int y4), none], []), (107, I, J, mm_rf rv sp rr w nw))) (b := ((18, [none, none, some (.int y2), some (.int y3), some (.int y4), none], []), (107, I, J, mm_rf rv sp rr w nw))) rfl (fun h2019 => ?_) (fun h2019 => ?_)
      · rw [if_pos h2019] at e
        cases e
        refine mm_T.mask [false, false, true, false, false, false] ?_
        exact k
      · rw [if_neg h2019] at e
        refine mm_T.seg (f' := (20, [none, none, some (.int y2), some (.int y3), some (.int y4), none], [(.int y3), (.int y2)])) (h' := (107, I, J, mm_rf rv sp rr w nw)) 2 rfl ?_
        by_cases h2020 : y3 = 0
        · rw [if_pos h2020] at e; cases e
        rw [if_neg h2020] at e
        refine mm_T.guard (y := ((21, [none, none, some (.int y2), some (.int y3), some (.int y4), none], [(.int (y2 - y2 / y3 * y3))]), (107, I, J, mm_rf rv sp rr w nw))) rfl h2020 ?_
        refine mm_T.seg (f' := (7, [none, none, some (.int y3), some (.int (y2 - y2 / y3 * y3)), some (.int (y4 + 1)), some (.int (y2 - y2 / y3 * y3))], [])) (h' := (107, I, J, mm_rf rv sp rr w nw)) 7 rfl ?_
        refine mm_T.mask [false, false, true, true, true, false] ?_
        exact ih y3 (y2 - y2 / y3 * y3) (y4 + 1) I J rv sp rr w nw out e k
    · rw [if_neg h2018] at e
      cases e
      refine mm_T.mask [false, false, true, false, false, false] ?_
      exact k
set_option maxRecDepth 100000 in
set_option maxHeartbeats 4000000 in
theorem tX6_commonPart (d n : Nat) (x0 : Int32) (x1 : Int32) (I : Nat → Nat → Int32) (J : Nat → Nat → Int64) (rv sp rr w nw : Nat) (out : Int32) (e : fX6_commonPart n x0 x1 = some out) : mm_T none (d + 0) 98 (mm_ent 98 [(.int x0), (.int x1)]) (107, I, J, mm_rf rv sp rr w nw) (fun v h => v = some (.int out) ∧ h = (107, I, J, mm_rf rv sp rr w nw)) := by
  unfold fX6_commonPart at e
  refine mm_T.seg (f' := (7, [some (.int x0), some (.int x1), some (.int x0), some (.int x1), some (.int 0), none], [])) (h' := (107, I, J, mm_rf rv sp rr w nw)) 6 rfl ?_
  refine mm_T.mask [false, false, true, true, true, false] ?_
  obtain ⟨o2021, eo2021, e⟩ := mm_bind e
  refine tlX6_commonPart_L7 d _ n x0 x1 0 I J rv sp rr w nw o2021 eo2021 ?_
  refine mm_T.seg (f' := (35, [none, none, some (.int o2021), none, none, none], [(.int o2021)])) (h' := (107, I, J, mm_rf rv sp rr w nw)) 1 rfl ?_
  cases e
  exact mm_T.ret rfl ⟨rfl, rfl⟩
set_option maxRecDepth 100000 in
set_option maxHeartbeats 4000000 in
theorem tX7_isBoard (d : Nat) (x1 : Int32) (I : Nat → Nat → Int32) (J : Nat → Nat → Int64) (rv sp rr w nw : Nat) (hrv : rv = 3 ∨ rv = 19) (out : Int32) (e : fX7_isBoard x1 I rv = out) : mm_T none (d + 0) 101 (mm_ent 101 [(.ref 18), (.int x1)]) (107, I, J, mm_rf rv sp rr w nw) (fun v h => v = some (.int out) ∧ h = (107, I, J, mm_rf rv sp rr w nw)) := by
  rcases hrv with rfl | rfl
  · unfold fX7_isBoard at e
    refine mm_T.seg (f' := (1, [some (.ref 18), some (.int x1)], [(.int x1)])) (h' := (107, I, J, mm_rf 3 sp rr w nw)) 1 rfl ?_
    refine mm_T.br (c := x1 < 0) (a := ((19, [some (.ref 18), some (.int x1)], []), (107, I, J, mm_rf 3 sp rr w nw))) (b := ((4, [some (.ref 18), some (.int x1)], []), (107, I, J, mm_rf 3 sp rr w nw))) rfl (fun h2022 => ?_) (fun h2022 => ?_)
    · rw [if_pos h2022] at e
      refine mm_T.seg (f' := (20, [some (.ref 18), some (.int x1)], [(.int 0)])) (h' := (107, I, J, mm_rf 3 sp rr w nw)) 1 rfl ?_
      cases e
      exact mm_T.ret rfl ⟨rfl, rfl⟩
    · rw [if_neg h2022] at e
      refine mm_T.seg (f' := (9, [some (.ref 18), some (.int x1)], [(.ref 3), (.int x1)])) (h' := (107, I, J, mm_rf 3 sp rr w nw)) 3 rfl ?_
      refine mm_T.seg (f' := (12, [some (.ref 18), some (.int x1)], [(.int (I 3 4)), (.int x1)])) (h' := (107, I, J, mm_rf 3 sp rr w nw)) 1 rfl ?_
      refine mm_T.br (c := x1 < (I 3 4)) (a := ((15, [some (.ref 18), some (.int x1)], []), (107, I, J, mm_rf 3 sp rr w nw))) (b := ((19, [some (.ref 18), some (.int x1)], []), (107, I, J, mm_rf 3 sp rr w nw))) rfl (fun h2023 => ?_) (fun h2023 => ?_)
      · rw [if_pos h2023] at e
        refine mm_T.seg (f' := (20, [some (.ref 18), some (.int x1)], [(.int 1)])) (h' := (107, I, J, mm_rf 3 sp rr w nw)) 2 rfl ?_
        cases e
        exact mm_T.ret rfl ⟨rfl, rfl⟩
      · rw [if_neg h2023] at e
        refine mm_T.seg (f' := (20, [some (.ref 18), some (.int x1)], [(.int 0)])) (h' := (107, I, J, mm_rf 3 sp rr w nw)) 1 rfl ?_
        cases e
        exact mm_T.ret rfl ⟨rfl, rfl⟩
  · unfold fX7_isBoard at e
    refine mm_T.seg (f' := (1, [some (.ref 18), some (.int x1)], [(.int x1)])) (h' := (107, I, J, mm_rf 19 sp rr w nw)) 1 rfl ?_
    refine mm_T.br (c := x1 < 0) (a := ((19, [some (.ref 18), some (.int x1)], []), (107, I, J, mm_rf 19 sp rr w nw))) (b := ((4, [some (.ref 18), some (.int x1)], []), (107, I, J, mm_rf 19 sp rr w nw))) rfl (fun h2022 => ?_) (fun h2022 => ?_)
    · rw [if_pos h2022] at e
      refine mm_T.seg (f' := (20, [some (.ref 18), some (.int x1)], [(.int 0)])) (h' := (107, I, J, mm_rf 19 sp rr w nw)) 1 rfl ?_
      cases e
      exact mm_T.ret rfl ⟨rfl, rfl⟩
    · rw [if_neg h2022] at e
      refine mm_T.seg (f' := (9, [some (.ref 18), some (.int x1)], [(.ref 19), (.int x1)])) (h' := (107, I, J, mm_rf 19 sp rr w nw)) 3 rfl ?_
      refine mm_T.seg (f' := (12, [some (.ref 18), some (.int x1)], [(.int (I 19 4)), (.int x1)])) (h' := (107, I, J, mm_rf 19 sp rr w nw)) 1 rfl ?_
      refine mm_T.br (c := x1 < (I 19 4)) (a := ((15, [some (.ref 18), some (.int x1)], []), (107, I, J, mm_rf 19 sp rr w nw))) (b := ((19, [some (.ref 18), some (.int x1)], []), (107, I, J, mm_rf 19 sp rr w nw))) rfl (fun h2023 => ?_) (fun h2023 => ?_)
      · rw [if_pos h2023] at e
        refine mm_T.seg (f' := (20, [some (.ref 18), some (.int x1)], [(.int 1)])) (h' := (107, I, J, mm_rf 19 sp rr w nw)) 2 rfl ?_
        cases e
        exact mm_T.ret rfl ⟨rfl, rfl⟩
      · rw [if_neg h2023] at e
        refine mm_T.seg (f' := (20, [some (.ref 18), some (.int x1)], [(.int 0)])) (h' := (107, I, J, mm_rf 19 sp rr w nw)) 1 rfl ?_
        cases e
        exact mm_T.ret rfl ⟨rfl, rfl⟩
set_option maxRecDepth 100000 in
set_option maxHeartbeats 4000000 in
theorem tX7_isLoad (d : Nat) (x1 : Int32) (I : Nat → Nat → Int32) (J : Nat → Nat → Int64) (rv sp rr w nw : Nat) (hrv : rv = 3 ∨ rv = 19) (out : Int32) (e : fX7_isLoad x1 I rv = out) : mm_T none (d + 0) 102 (mm_ent 102 [(.ref 18), (.int x1)]) (107, I, J, mm_rf rv sp rr w nw) (fun v h => v = some (.int out) ∧ h = (107, I, J, mm_rf rv sp rr w nw)) := by
  rcases hrv with rfl | rfl
  · unfold fX7_isLoad at e
    refine mm_T.seg (f' := (1, [some (.ref 18), some (.int x1)], [(.int x1)])) (h' := (107, I, J, mm_rf 3 sp rr w nw)) 1 rfl ?_
    refine mm_T.br (c := x1 < 0) (a := ((19, [some (.ref 18), some (.int x1)], []), (107, I, J, mm_rf 3 sp rr w nw))) (b := ((4, [some (.ref 18), some (.int x1)], []), (107, I, J, mm_rf 3 sp rr w nw))) rfl (fun h2024 => ?_) (fun h2024 => ?_)
    · rw [if_pos h2024] at e
      refine mm_T.seg (f' := (20, [some (.ref 18), some (.int x1)], [(.int 0)])) (h' := (107, I, J, mm_rf 3 sp rr w nw)) 1 rfl ?_
      cases e
      exact mm_T.ret rfl ⟨rfl, rfl⟩
    · rw [if_neg h2024] at e
      refine mm_T.seg (f' := (9, [some (.ref 18), some (.int x1)], [(.ref 3), (.int x1)])) (h' := (107, I, J, mm_rf 3 sp rr w nw)) 3 rfl ?_
      refine mm_T.seg (f' := (12, [some (.ref 18), some (.int x1)], [(.int (I 3 5)), (.int x1)])) (h' := (107, I, J, mm_rf 3 sp rr w nw)) 1 rfl ?_
      refine mm_T.br (c := x1 < (I 3 5)) (a := ((15, [some (.ref 18), some (.int x1)], []), (107, I, J, mm_rf 3 sp rr w nw))) (b := ((19, [some (.ref 18), some (.int x1)], []), (107, I, J, mm_rf 3 sp rr w nw))) rfl (fun h2025 => ?_) (fun h2025 => ?_)
      · rw [if_pos h2025] at e
        refine mm_T.seg (f' := (20, [some (.ref 18), some (.int x1)], [(.int 1)])) (h' := (107, I, J, mm_rf 3 sp rr w nw)) 2 rfl ?_
        cases e
        exact mm_T.ret rfl ⟨rfl, rfl⟩
      · rw [if_neg h2025] at e
        refine mm_T.seg (f' := (20, [some (.ref 18), some (.int x1)], [(.int 0)])) (h' := (107, I, J, mm_rf 3 sp rr w nw)) 1 rfl ?_
        cases e
        exact mm_T.ret rfl ⟨rfl, rfl⟩
  · unfold fX7_isLoad at e
    refine mm_T.seg (f' := (1, [some (.ref 18), some (.int x1)], [(.int x1)])) (h' := (107, I, J, mm_rf 19 sp rr w nw)) 1 rfl ?_
    refine mm_T.br (c := x1 < 0) (a := ((19, [some (.ref 18), some (.int x1)], []), (107, I, J, mm_rf 19 sp rr w nw))) (b := ((4, [some (.ref 18), some (.int x1)], []), (107, I, J, mm_rf 19 sp rr w nw))) rfl (fun h2024 => ?_) (fun h2024 => ?_)
    · rw [if_pos h2024] at e
      refine mm_T.seg (f' := (20, [some (.ref 18), some (.int x1)], [(.int 0)])) (h' := (107, I, J, mm_rf 19 sp rr w nw)) 1 rfl ?_
      cases e
      exact mm_T.ret rfl ⟨rfl, rfl⟩
    · rw [if_neg h2024] at e
      refine mm_T.seg (f' := (9, [some (.ref 18), some (.int x1)], [(.ref 19), (.int x1)])) (h' := (107, I, J, mm_rf 19 sp rr w nw)) 3 rfl ?_
      refine mm_T.seg (f' := (12, [some (.ref 18), some (.int x1)], [(.int (I 19 5)), (.int x1)])) (h' := (107, I, J, mm_rf 19 sp rr w nw)) 1 rfl ?_
      refine mm_T.br (c := x1 < (I 19 5)) (a := ((15, [some (.ref 18), some (.int x1)], []), (107, I, J, mm_rf 19 sp rr w nw))) (b := ((19, [some (.ref 18), some (.int x1)], []), (107, I, J, mm_rf 19 sp rr w nw))) rfl (fun h2025 => ?_) (fun h2025 => ?_)
      · rw [if_pos h2025] at e
        refine mm_T.seg (f' := (20, [some (.ref 18), some (.int x1)], [(.int 1)])) (h' := (107, I, J, mm_rf 19 sp rr w nw)) 2 rfl ?_
        cases e
        exact mm_T.ret rfl ⟨rfl, rfl⟩
      · rw [if_neg h2025] at e
        refine mm_T.seg (f' := (20, [some (.ref 18), some (.int x1)], [(.int 0)])) (h' := (107, I, J, mm_rf 19 sp rr w nw)) 1 rfl ?_
        cases e
        exact mm_T.ret rfl ⟨rfl, rfl⟩
set_option maxRecDepth 100000 in
set_option maxHeartbeats 4000000 in
theorem tX7_set (d : Nat) (x1 : Int32) (x2 : Int32) (x3 : Int32) (I : Nat → Nat → Int32) (J : Nat → Nat → Int64) (rv sp rr w nw : Nat) (out : (Nat → Nat → Int32)) (e : fX7_set x1 x2 x3 I = out) : mm_T none (d + 1) 104 (mm_ent 104 [(.ref 18), (.int x1), (.int x2), (.int x3)]) (107, I, J, mm_rf rv sp rr w nw) (fun v h => v = none ∧ h = (107, out, J, mm_rf rv sp rr w nw)) := by
  unfold fX7_set at e
  refine mm_T.seg (f' := (4, [some (.ref 18), some (.int x1), some (.int x2), some (.int x3)], [(.ref 32)])) (h' := (107, I, J, mm_rf rv sp rr w nw)) 2 rfl ?_
  refine mm_T.seg (f' := (10, [some (.ref 18), some (.int x1), some (.int x2), some (.int x3)], [(.int x3), (.int ((x1 * 5) + x2)), (.ref 32)])) (h' := (107, I, J, mm_rf rv sp rr w nw)) 6 rfl ?_
  refine mm_T.call (t := 205) (as := [(.ref 32), (.int ((x1 * 5) + x2)), (.int x3)]) (f' := (13, [some (.ref 18), some (.int x1), some (.int x2), some (.int x3)], [])) rfl (t_put _ 32 28 ((x1 * 5) + x2) x3 I J (mm_rf rv sp rr w nw) rfl rfl) (fun v h hq => ?_)
  obtain ⟨rfl, rfl⟩ := hq
  cases e
  exact mm_T.ret rfl ⟨rfl, rfl⟩
set_option maxRecDepth 100000 in
set_option maxHeartbeats 4000000 in
theorem tX7_heatOf (d : Nat) (x1 : Int32) (I : Nat → Nat → Int32) (J : Nat → Nat → Int64) (rv sp rr w nw : Nat) (out : Int32) (e : fX7_heatOf x1 I = out) : mm_T none (d + 2) 107 (mm_ent 107 [(.ref 18), (.int x1)]) (107, I, J, mm_rf rv sp rr w nw) (fun v h => v = some (.int out) ∧ h = (107, I, J, mm_rf rv sp rr w nw)) := by
  unfold fX7_heatOf at e
  refine mm_T.seg (f' := (3, [some (.ref 18), some (.int x1)], [(.int 2), (.int x1), (.ref 18)])) (h' := (107, I, J, mm_rf rv sp rr w nw)) 3 rfl ?_
  obtain ⟨g304, hg304⟩ : ∃ z, fX7_get x1 2 I = z := ⟨_, rfl⟩
  try rw [hg304] at e
  refine mm_T.call (t := 103) (as := [(.ref 18), (.int x1), (.int 2)]) (f' := (6, [some (.ref 18), some (.int x1)], [])) rfl (tX7_get (d + 0) x1 2 I J rv sp rr w nw g304 hg304) (fun v h hq => ?_)
  obtain ⟨rfl, rfl⟩ := hq
  cases e
  exact mm_T.ret rfl ⟨rfl, rfl⟩
set_option maxRecDepth 100000 in
set_option maxHeartbeats 4000000 in
theorem tX7_setHeat (d : Nat) (x1 : Int32) (x2 : Int32) (I : Nat → Nat → Int32) (J : Nat → Nat → Int64) (rv sp rr w nw : Nat) (out : (Nat → Nat → Int32)) (e : fX7_setHeat x1 x2 I = out) : mm_T none (d + 2) 108 (mm_ent 108 [(.ref 18), (.int x1), (.int x2)]) (107, I, J, mm_rf rv sp rr w nw) (fun v h => v = none ∧ h = (107, out, J, mm_rf rv sp rr w nw)) := by
  unfold fX7_setHeat at e
  refine mm_T.seg (f' := (4, [some (.ref 18), some (.int x1), some (.int x2)], [(.int x2), (.int 2), (.int x1), (.ref 18)])) (h' := (107, I, J, mm_rf rv sp rr w nw)) 4 rfl ?_
  obtain ⟨g305, hg305⟩ : ∃ z, fX7_set x1 2 x2 I = z := ⟨_, rfl⟩
  try rw [hg305] at e
  refine mm_T.call (t := 104) (as := [(.ref 18), (.int x1), (.int 2), (.int x2)]) (f' := (7, [some (.ref 18), some (.int x1), some (.int x2)], [])) rfl (tX7_set (d + 0) x1 2 x2 I J rv sp rr w nw g305 hg305) (fun v h hq => ?_)
  obtain ⟨rfl, rfl⟩ := hq
  cases e
  exact mm_T.ret rfl ⟨rfl, rfl⟩
set_option maxRecDepth 100000 in
set_option maxHeartbeats 4000000 in
theorem tX7_scorchesOf (d : Nat) (x1 : Int32) (I : Nat → Nat → Int32) (J : Nat → Nat → Int64) (rv sp rr w nw : Nat) (out : Int32) (e : fX7_scorchesOf x1 I = out) : mm_T none (d + 2) 109 (mm_ent 109 [(.ref 18), (.int x1)]) (107, I, J, mm_rf rv sp rr w nw) (fun v h => v = some (.int out) ∧ h = (107, I, J, mm_rf rv sp rr w nw)) := by
  unfold fX7_scorchesOf at e
  refine mm_T.seg (f' := (3, [some (.ref 18), some (.int x1)], [(.int 3), (.int x1), (.ref 18)])) (h' := (107, I, J, mm_rf rv sp rr w nw)) 3 rfl ?_
  obtain ⟨g306, hg306⟩ : ∃ z, fX7_get x1 3 I = z := ⟨_, rfl⟩
  try rw [hg306] at e
  refine mm_T.call (t := 103) (as := [(.ref 18), (.int x1), (.int 3)]) (f' := (6, [some (.ref 18), some (.int x1)], [])) rfl (tX7_get (d + 0) x1 3 I J rv sp rr w nw g306 hg306) (fun v h hq => ?_)
  obtain ⟨rfl, rfl⟩ := hq
  cases e
  exact mm_T.ret rfl ⟨rfl, rfl⟩
set_option maxRecDepth 100000 in
set_option maxHeartbeats 4000000 in
theorem tX7_strokesOf (d : Nat) (x1 : Int32) (I : Nat → Nat → Int32) (J : Nat → Nat → Int64) (rv sp rr w nw : Nat) (out : Int32) (e : fX7_strokesOf x1 I = out) : mm_T none (d + 2) 110 (mm_ent 110 [(.ref 18), (.int x1)]) (107, I, J, mm_rf rv sp rr w nw) (fun v h => v = some (.int out) ∧ h = (107, I, J, mm_rf rv sp rr w nw)) := by
  unfold fX7_strokesOf at e
  refine mm_T.seg (f' := (3, [some (.ref 18), some (.int x1)], [(.int 4), (.int x1), (.ref 18)])) (h' := (107, I, J, mm_rf rv sp rr w nw)) 3 rfl ?_
  obtain ⟨g307, hg307⟩ : ∃ z, fX7_get x1 4 I = z := ⟨_, rfl⟩
  try rw [hg307] at e
  refine mm_T.call (t := 103) (as := [(.ref 18), (.int x1), (.int 4)]) (f' := (6, [some (.ref 18), some (.int x1)], [])) rfl (tX7_get (d + 0) x1 4 I J rv sp rr w nw g307 hg307) (fun v h hq => ?_)
  obtain ⟨rfl, rfl⟩ := hq
  cases e
  exact mm_T.ret rfl ⟨rfl, rfl⟩
set_option maxRecDepth 100000 in
set_option maxHeartbeats 4000000 in
theorem tX7_placeOf (d : Nat) (x1 : Int32) (I : Nat → Nat → Int32) (J : Nat → Nat → Int64) (rv sp rr w nw : Nat) (out : Int32) (e : fX7_placeOf x1 I = out) : mm_T none (d + 1) 112 (mm_ent 112 [(.ref 18), (.int x1)]) (107, I, J, mm_rf rv sp rr w nw) (fun v h => v = some (.int out) ∧ h = (107, I, J, mm_rf rv sp rr w nw)) := by
  unfold fX7_placeOf at e
  refine mm_T.seg (f' := (4, [some (.ref 18), some (.int x1)], [(.ref 32)])) (h' := (107, I, J, mm_rf rv sp rr w nw)) 2 rfl ?_
  refine mm_T.seg (f' := (8, [some (.ref 18), some (.int x1)], [(.int (20 + x1)), (.ref 32)])) (h' := (107, I, J, mm_rf rv sp rr w nw)) 3 rfl ?_
  refine mm_T.call (t := 204) (as := [(.ref 32), (.int (20 + x1))]) (f' := (11, [some (.ref 18), some (.int x1)], [])) rfl (t_pick _ 32 28 (20 + x1) I J (mm_rf rv sp rr w nw) rfl rfl) (fun v h hq => ?_)
  obtain ⟨rfl, rfl⟩ := hq
  cases e
  exact mm_T.ret rfl ⟨rfl, rfl⟩
set_option maxRecDepth 100000 in
set_option maxHeartbeats 4000000 in
theorem tX7_setPlace (d : Nat) (x1 : Int32) (x2 : Int32) (I : Nat → Nat → Int32) (J : Nat → Nat → Int64) (rv sp rr w nw : Nat) (out : (Nat → Nat → Int32)) (e : fX7_setPlace x1 x2 I = out) : mm_T none (d + 1) 113 (mm_ent 113 [(.ref 18), (.int x1), (.int x2)]) (107, I, J, mm_rf rv sp rr w nw) (fun v h => v = none ∧ h = (107, out, J, mm_rf rv sp rr w nw)) := by
  unfold fX7_setPlace at e
  refine mm_T.seg (f' := (4, [some (.ref 18), some (.int x1), some (.int x2)], [(.ref 32)])) (h' := (107, I, J, mm_rf rv sp rr w nw)) 2 rfl ?_
  refine mm_T.seg (f' := (9, [some (.ref 18), some (.int x1), some (.int x2)], [(.int x2), (.int (20 + x1)), (.ref 32)])) (h' := (107, I, J, mm_rf rv sp rr w nw)) 4 rfl ?_
  refine mm_T.call (t := 205) (as := [(.ref 32), (.int (20 + x1)), (.int x2)]) (f' := (12, [some (.ref 18), some (.int x1), some (.int x2)], [])) rfl (t_put _ 32 28 (20 + x1) x2 I J (mm_rf rv sp rr w nw) rfl rfl) (fun v h hq => ?_)
  obtain ⟨rfl, rfl⟩ := hq
  cases e
  exact mm_T.ret rfl ⟨rfl, rfl⟩
set_option maxRecDepth 100000 in
set_option maxHeartbeats 4000000 in
theorem tX7_seed (d : Nat) (I : Nat → Nat → Int32) (J : Nat → Nat → Int64) (rv sp rr w nw : Nat) (out : Int32) (e : fX7_seed I = out) : mm_T none (d + 1) 114 (mm_ent 114 [(.ref 18)]) (107, I, J, mm_rf rv sp rr w nw) (fun v h => v = some (.int out) ∧ h = (107, I, J, mm_rf rv sp rr w nw)) := by
  unfold fX7_seed at e
  refine mm_T.seg (f' := (4, [some (.ref 18)], [(.ref 32)])) (h' := (107, I, J, mm_rf rv sp rr w nw)) 2 rfl ?_
  refine mm_T.seg (f' := (6, [some (.ref 18)], [(.int 27), (.ref 32)])) (h' := (107, I, J, mm_rf rv sp rr w nw)) 1 rfl ?_
  refine mm_T.call (t := 204) (as := [(.ref 32), (.int 27)]) (f' := (9, [some (.ref 18)], [])) rfl (t_pick _ 32 28 27 I J (mm_rf rv sp rr w nw) rfl rfl) (fun v h hq => ?_)
  obtain ⟨rfl, rfl⟩ := hq
  cases e
  exact mm_T.ret rfl ⟨rfl, rfl⟩
set_option maxRecDepth 100000 in
set_option maxHeartbeats 4000000 in
theorem tX7_allLoads (d : Nat) (I : Nat → Nat → Int32) (J : Nat → Nat → Int64) (rv sp rr w nw : Nat) (hrv : rv = 3 ∨ rv = 19) (out : Int32) (e : fX7_allLoads I rv = out) : mm_T none (d + 0) 115 (mm_ent 115 [(.ref 18)]) (107, I, J, mm_rf rv sp rr w nw) (fun v h => v = some (.int out) ∧ h = (107, I, J, mm_rf rv sp rr w nw)) := by
  rcases hrv with rfl | rfl
  · unfold fX7_allLoads at e
    refine mm_T.seg (f' := (5, [some (.ref 18)], [(.ref 3), (.int 1)])) (h' := (107, I, J, mm_rf 3 sp rr w nw)) 3 rfl ?_
    refine mm_T.seg (f' := (11, [some (.ref 18)], [(.int (((1 : Int32) <<< ((I 3 5) &&& 31)) - 1))])) (h' := (107, I, J, mm_rf 3 sp rr w nw)) 4 rfl ?_
    cases e
    exact mm_T.ret rfl ⟨rfl, rfl⟩
  · unfold fX7_allLoads at e
    refine mm_T.seg (f' := (5, [some (.ref 18)], [(.ref 19), (.int 1)])) (h' := (107, I, J, mm_rf 19 sp rr w nw)) 3 rfl ?_
    refine mm_T.seg (f' := (11, [some (.ref 18)], [(.int (((1 : Int32) <<< ((I 19 5) &&& 31)) - 1))])) (h' := (107, I, J, mm_rf 19 sp rr w nw)) 4 rfl ?_
    cases e
    exact mm_T.ret rfl ⟨rfl, rfl⟩
set_option maxRecDepth 100000 in
set_option maxHeartbeats 4000000 in
theorem tlX7_loadsAt_L4 (d : Nat) (Q : Option Value → mm_H → Prop) : ∀ (n : Nat) (y1 : Int32) (y2 : Int32) (y3 : Int32) (I : Nat → Nat → Int32) (J : Nat → Nat → Int64) (rv sp rr w nw : Nat), (rv = 3 ∨ rv = 19) → ∀ (out : Int32), fX7_loadsAt_L4 n y1 y2 y3 I rv = some out → mm_T none (d + 2) 116 (36, [none, none, some (.int out), none], []) (107, I, J, mm_rf rv sp rr w nw) Q → mm_T none (d + 2) 116 (4, [some (.ref 18), some (.int y1), some (.int y2), some (.int y3)], []) (107, I, J, mm_rf rv sp rr w nw) Q := by
  intro n
  induction n with
  | zero =>
    intro y1 y2 y3 I J rv sp rr w nw hrv out e k
    rw [fX7_loadsAt_L4] at e; cases e
  | succ n ih =>
    intro y1 y2 y3 I J rv sp rr w nw hrv out e k
    rcases hrv with rfl | rfl
    · rw [fX7_loadsAt_L4] at e
      refine mm_T.seg (f' := (9, [some (.ref 18), some (.int y1), some (.int y2), some (.int y3)], [(.ref 3), (.int y3)])) (h' := (107, I, J, mm_rf 3 sp rr w nw)) 3 rfl ?_
      refine mm_T.seg (f' := (12, [some (.ref 18), some (.int y1), some (.int y2), some (.int y3)], [(.int (I 3 5)), (.int y3)])) (h' := (107, I, J, mm_rf 3 sp rr w nw)) 1 rfl ?_
      refine mm_T.br (c := y3 < (I 3 5)) (a := ((15, [some (.ref 18), some (.int y1), some (.int y2), some (.int y3)], []), (107, I, J, mm_rf 3 sp rr w nw))) (b := ((36, [some (.ref 18), some (.int y1), some (.int y2), some (.int y3)], []), (107, I, J, mm_rf 3 sp rr w nw))) rfl (fun h2028 => ?_) (fun h2028 => ?_)
      · rw [if_pos h2028] at e
        refine mm_T.seg (f' := (17, [some (.ref 18), some (.int y1), some (.int y2), some (.int y3)], [(.int y3), (.ref 18)])) (h' := (107, I, J, mm_rf 3 sp rr w nw)) 2 rfl ?_
        obtain ⟨g309, hg309⟩ : ∃ z, fX7_placeOf y3 I = z := ⟨_, rfl⟩
        try rw [hg309] at e
        refine mm_T.call (t := 112) (as := [(.ref 18), (.int y3)]) (f' := (20, [some (.ref 18), some (.int y1), some (.int y2), some (.int y3)], [])) rfl (tX7_placeOf (d + 0) y3 I J 3 sp rr w nw g309 hg309) (fun v h hq => ?_)
        obtain ⟨rfl, rfl⟩ := hq
        refine mm_T.seg (f' := (21, [some (.ref 18), some (.int y1), some (.int y2), some (.int y3)], [(.int y1), (.int g309)])) (h' := (107, I, J, mm_rf 3 sp rr w nw)) 1 rfl ?_
        refine mm_T.br (c := g309 = y1) (a := ((24, [some (.ref 18), some (.int y1), some (.int y2), some (.int y3)], []), (107, I, J, mm_rf 3 sp rr w nw))) (b := ((30, [some (.ref 18), some (.int y1), some (.int y2), some (.int y3)], []), (107, I, J, mm_rf 3 sp rr w nw))) rfl (fun h2029 => ?_) (fun h2029 => ?_)
        · rw [if_pos h2029] at e
          refine mm_T.seg (f' := (4, [some (.ref 18), some (.int y1), some (.int (y2 ||| ((1 : Int32) <<< (y3 &&& 31)))), some (.int (y3 + 1))], [])) (h' := (107, I, J, mm_rf 3 sp rr w nw)) 8 rfl ?_
          refine mm_T.mask [true, true, true, true] ?_
          exact ih y1 (y2 ||| ((1 : Int32) <<< (y3 &&& 31))) (y3 + 1) I J 3 sp rr w nw (Or.inl rfl) out e k
        · rw [if_neg h2029] at e
          refine mm_T.seg (f' := (4, [some (.ref 18), some (.int y1), some (.int y2), some (.int (y3 + 1))], [])) (h' := (107, I, J, mm_rf 3 sp rr w nw)) 2 rfl ?_
          refine mm_T.mask [true, true, true, true] ?_
          exact ih y1 y2 (y3 + 1) I J 3 sp rr w nw (Or.inl rfl) out e k
      · rw [if_neg h2028] at e
        cases e
        refine mm_T.mask [false, false, true, false] ?_
        exact k
    · rw [fX7_loadsAt_L4] at e
      refine mm_T.seg (f' := (9, [some (.ref 18), some (.int y1), some (.int y2), some (.int y3)], [(.ref 19), (.int y3)])) (h' := (107, I, J, mm_rf 19 sp rr w nw)) 3 rfl ?_
      refine mm_T.seg (f' := (12, [some (.ref 18), some (.int y1), some (.int y2), some (.int y3)], [(.int (I 19 5)), (.int y3)])) (h' := (107, I, J, mm_rf 19 sp rr w nw)) 1 rfl ?_
      refine mm_T.br (c := y3 < (I 19 5)) (a := ((15, [some (.ref 18), some (.int y1), some (.int y2), some (.int y3)], []), (107, I, J, mm_rf 19 sp rr w nw))) (b := ((36, [some (.ref 18), some (.int y1), some (.int y2), some (.int y3)], []), (107, I, J, mm_rf 19 sp rr w nw))) rfl (fun h2028 => ?_) (fun h2028 => ?_)
      · rw [if_pos h2028] at e
        refine mm_T.seg (f' := (17, [some (.ref 18), some (.int y1), some (.int y2), some (.int y3)], [(.int y3), (.ref 18)])) (h' := (107, I, J, mm_rf 19 sp rr w nw)) 2 rfl ?_
        obtain ⟨g309, hg309⟩ : ∃ z, fX7_placeOf y3 I = z := ⟨_, rfl⟩
        try rw [hg309] at e
        refine mm_T.call (t := 112) (as := [(.ref 18), (.int y3)]) (f' := (20, [some (.ref 18), some (.int y1), some (.int y2), some (.int y3)], [])) rfl (tX7_placeOf (d + 0) y3 I J 19 sp rr w nw g309 hg309) (fun v h hq => ?_)
        obtain ⟨rfl, rfl⟩ := hq
        refine mm_T.seg (f' := (21, [some (.ref 18), some (.int y1), some (.int y2), some (.int y3)], [(.int y1), (.int g309)])) (h' := (107, I, J, mm_rf 19 sp rr w nw)) 1 rfl ?_
        refine mm_T.br (c := g309 = y1) (a := ((24, [some (.ref 18), some (.int y1), some (.int y2), some (.int y3)], []), (107, I, J, mm_rf 19 sp rr w nw))) (b := ((30, [some (.ref 18), some (.int y1), some (.int y2), some (.int y3)], []), (107, I, J, mm_rf 19 sp rr w nw))) rfl (fun h2029 => ?_) (fun h2029 => ?_)
        · rw [if_pos h2029] at e
          refine mm_T.seg (f' := (4, [some (.ref 18), some (.int y1), some (.int (y2 ||| ((1 : Int32) <<< (y3 &&& 31)))), some (.int (y3 + 1))], [])) (h' := (107, I, J, mm_rf 19 sp rr w nw)) 8 rfl ?_
          refine mm_T.mask [true, true, true, true] ?_
          exact ih y1 (y2 ||| ((1 : Int32) <<< (y3 &&& 31))) (y3 + 1) I J 19 sp rr w nw (Or.inr rfl) out e k
        · rw [if_neg h2029] at e
          refine mm_T.seg (f' := (4, [some (.ref 18), some (.int y1), some (.int y2), some (.int (y3 + 1))], [])) (h' := (107, I, J, mm_rf 19 sp rr w nw)) 2 rfl ?_
          refine mm_T.mask [true, true, true, true] ?_
          exact ih y1 y2 (y3 + 1) I J 19 sp rr w nw (Or.inr rfl) out e k
      · rw [if_neg h2028] at e
        cases e
        refine mm_T.mask [false, false, true, false] ?_
        exact k
set_option maxRecDepth 100000 in
set_option maxHeartbeats 4000000 in
theorem tX7_loadsAt (d n : Nat) (x1 : Int32) (I : Nat → Nat → Int32) (J : Nat → Nat → Int64) (rv sp rr w nw : Nat) (hrv : rv = 3 ∨ rv = 19) (out : Int32) (e : fX7_loadsAt n x1 I rv = some out) : mm_T none (d + 2) 116 (mm_ent 116 [(.ref 18), (.int x1)]) (107, I, J, mm_rf rv sp rr w nw) (fun v h => v = some (.int out) ∧ h = (107, I, J, mm_rf rv sp rr w nw)) := by
  rcases hrv with rfl | rfl
  · unfold fX7_loadsAt at e
    refine mm_T.seg (f' := (4, [some (.ref 18), some (.int x1), some (.int 0), some (.int 0)], [])) (h' := (107, I, J, mm_rf 3 sp rr w nw)) 4 rfl ?_
    refine mm_T.mask [true, true, true, true] ?_
    obtain ⟨o2030, eo2030, e⟩ := mm_bind e
    refine tlX7_loadsAt_L4 d _ n x1 0 0 I J 3 sp rr w nw (Or.inl rfl) o2030 eo2030 ?_
    refine mm_T.seg (f' := (37, [none, none, some (.int o2030), none], [(.int o2030)])) (h' := (107, I, J, mm_rf 3 sp rr w nw)) 1 rfl ?_
    cases e
    exact mm_T.ret rfl ⟨rfl, rfl⟩
  · unfold fX7_loadsAt at e
    refine mm_T.seg (f' := (4, [some (.ref 18), some (.int x1), some (.int 0), some (.int 0)], [])) (h' := (107, I, J, mm_rf 19 sp rr w nw)) 4 rfl ?_
    refine mm_T.mask [true, true, true, true] ?_
    obtain ⟨o2030, eo2030, e⟩ := mm_bind e
    refine tlX7_loadsAt_L4 d _ n x1 0 0 I J 19 sp rr w nw (Or.inr rfl) o2030 eo2030 ?_
    refine mm_T.seg (f' := (37, [none, none, some (.int o2030), none], [(.int o2030)])) (h' := (107, I, J, mm_rf 19 sp rr w nw)) 1 rfl ?_
    cases e
    exact mm_T.ret rfl ⟨rfl, rfl⟩
set_option maxRecDepth 100000 in
set_option maxHeartbeats 4000000 in
theorem tJ6_bitCount (d : Nat) (x0 : Int32) (I : Nat → Nat → Int32) (J : Nat → Nat → Int64) (rv sp rr w nw : Nat) (out : Int32) (e : fJ6_bitCount x0 = out) : mm_T none (d + 0) 345 (mm_ent 345 [(.int x0)]) (107, I, J, mm_rf rv sp rr w nw) (fun v h => v = some (.int out) ∧ h = (107, I, J, mm_rf rv sp rr w nw)) := by
  unfold fJ6_bitCount at e
  refine mm_T.seg (f' := (52, [some (.int (((((((x0 - ((x0.toUInt32 >>> ((1 : Int32).toUInt32 &&& Int32.toUInt32 31)).toInt32 &&& 1431655765)) &&& 858993459) + (((x0 - ((x0.toUInt32 >>> ((1 : Int32).toUInt32 &&& Int32.toUInt32 31)).toInt32 &&& 1431655765)).toUInt32 >>> ((2 : Int32).toUInt32 &&& Int32.toUInt32 31)).toInt32 &&& 858993459)) + ((((x0 - ((x0.toUInt32 >>> ((1 : Int32).toUInt32 &&& Int32.toUInt32 31)).toInt32 &&& 1431655765)) &&& 858993459) + (((x0 - ((x0.toUInt32 >>> ((1 : Int32).toUInt32 &&& Int32.toUInt32 31)).toInt32 &&& 1431655765)).toUInt32 >>> ((2 : Int32).toUInt32 &&& Int32.toUInt32 31)).toInt32 &&& 858993459)).toUInt32 >>> ((4 : Int32).toUInt32 &&& Int32.toUInt32 31)).toInt32) &&& 252645135) + ((((((x0 - ((x0.toUInt32 >>> ((1 : Int32).toUInt32 &&& Int32.toUInt32 31)).toInt32 &&& 1431655765)) &&& 858993459) + (((x0 - ((x0.toUInt32 >>> ((1 : Int32).toUInt32 &&& Int32.toUInt32 31)).toInt32 &&& 1431655765)).toUInt32 >>> ((2 : Int32).toUInt32 &&& Int32.toUInt32 31)).toInt32 &&& 858993459)) + ((((x0 - ((x0.toUInt32 >>> ((1 : Int32).toUInt32 &&& Int32.toUInt32 31)).toInt32 &&& 1431655765)) &&& 858993459) + (((x0 - ((x0.toUInt32 >>> ((1 : Int32).toUInt32 &&& Int32.toUInt32 31)).toInt32 &&& 1431655765)).toUInt32 >>> ((2 : Int32).toUInt32 &&& Int32.toUInt32 31)).toInt32 &&& 858993459)).toUInt32 >>> ((4 : Int32).toUInt32 &&& Int32.toUInt32 31)).toInt32) &&& 252645135).toUInt32 >>> ((8 : Int32).toUInt32 &&& Int32.toUInt32 31)).toInt32) + (((((((x0 - ((x0.toUInt32 >>> ((1 : Int32).toUInt32 &&& Int32.toUInt32 31)).toInt32 &&& 1431655765)) &&& 858993459) + (((x0 - ((x0.toUInt32 >>> ((1 : Int32).toUInt32 &&& Int32.toUInt32 31)).toInt32 &&& 1431655765)).toUInt32 >>> ((2 : Int32).toUInt32 &&& Int32.toUInt32 31)).toInt32 &&& 858993459)) + ((((x0 - ((x0.toUInt32 >>> ((1 : Int32).toUInt32 &&& Int32.toUInt32 31)).toInt32 &&& 1431655765)) &&& 858993459) + (((x0 - ((x0.toUInt32 >>> ((1 : Int32).toUInt32 &&& Int32.toUInt32 31)).toInt32 &&& 1431655765)).toUInt32 >>> ((2 : Int32).toUInt32 &&& Int32.toUInt32 31)).toInt32 &&& 858993459)).toUInt32 >>> ((4 : Int32).toUInt32 &&& Int32.toUInt32 31)).toInt32) &&& 252645135) + ((((((x0 - ((x0.toUInt32 >>> ((1 : Int32).toUInt32 &&& Int32.toUInt32 31)).toInt32 &&& 1431655765)) &&& 858993459) + (((x0 - ((x0.toUInt32 >>> ((1 : Int32).toUInt32 &&& Int32.toUInt32 31)).toInt32 &&& 1431655765)).toUInt32 >>> ((2 : Int32).toUInt32 &&& Int32.toUInt32 31)).toInt32 &&& 858993459)) + ((((x0 - ((x0.toUInt32 >>> ((1 : Int32).toUInt32 &&& Int32.toUInt32 31)).toInt32 &&& 1431655765)) &&& 858993459) + (((x0 - ((x0.toUInt32 >>> ((1 : Int32).toUInt32 &&& Int32.toUInt32 31)).toInt32 &&& 1431655765)).toUInt32 >>> ((2 : Int32).toUInt32 &&& Int32.toUInt32 31)).toInt32 &&& 858993459)).toUInt32 >>> ((4 : Int32).toUInt32 &&& Int32.toUInt32 31)).toInt32) &&& 252645135).toUInt32 >>> ((8 : Int32).toUInt32 &&& Int32.toUInt32 31)).toInt32).toUInt32 >>> ((16 : Int32).toUInt32 &&& Int32.toUInt32 31)).toInt32))], [(.int ((((((((x0 - ((x0.toUInt32 >>> ((1 : Int32).toUInt32 &&& Int32.toUInt32 31)).toInt32 &&& 1431655765)) &&& 858993459) + (((x0 - ((x0.toUInt32 >>> ((1 : Int32).toUInt32 &&& Int32.toUInt32 31)).toInt32 &&& 1431655765)).toUInt32 >>> ((2 : Int32).toUInt32 &&& Int32.toUInt32 31)).toInt32 &&& 858993459)) + ((((x0 - ((x0.toUInt32 >>> ((1 : Int32).toUInt32 &&& Int32.toUInt32 31)).toInt32 &&& 1431655765)) &&& 858993459) + (((x0 - ((x0.toUInt32 >>> ((1 : Int32).toUInt32 &&& Int32.toUInt32 31)).toInt32 &&& 1431655765)).toUInt32 >>> ((2 : Int32).toUInt32 &&& Int32.toUInt32 31)).toInt32 &&& 858993459)).toUInt32 >>> ((4 : Int32).toUInt32 &&& Int32.toUInt32 31)).toInt32) &&& 252645135) + ((((((x0 - ((x0.toUInt32 >>> ((1 : Int32).toUInt32 &&& Int32.toUInt32 31)).toInt32 &&& 1431655765)) &&& 858993459) + (((x0 - ((x0.toUInt32 >>> ((1 : Int32).toUInt32 &&& Int32.toUInt32 31)).toInt32 &&& 1431655765)).toUInt32 >>> ((2 : Int32).toUInt32 &&& Int32.toUInt32 31)).toInt32 &&& 858993459)) + ((((x0 - ((x0.toUInt32 >>> ((1 : Int32).toUInt32 &&& Int32.toUInt32 31)).toInt32 &&& 1431655765)) &&& 858993459) + (((x0 - ((x0.toUInt32 >>> ((1 : Int32).toUInt32 &&& Int32.toUInt32 31)).toInt32 &&& 1431655765)).toUInt32 >>> ((2 : Int32).toUInt32 &&& Int32.toUInt32 31)).toInt32 &&& 858993459)).toUInt32 >>> ((4 : Int32).toUInt32 &&& Int32.toUInt32 31)).toInt32) &&& 252645135).toUInt32 >>> ((8 : Int32).toUInt32 &&& Int32.toUInt32 31)).toInt32) + (((((((x0 - ((x0.toUInt32 >>> ((1 : Int32).toUInt32 &&& Int32.toUInt32 31)).toInt32 &&& 1431655765)) &&& 858993459) + (((x0 - ((x0.toUInt32 >>> ((1 : Int32).toUInt32 &&& Int32.toUInt32 31)).toInt32 &&& 1431655765)).toUInt32 >>> ((2 : Int32).toUInt32 &&& Int32.toUInt32 31)).toInt32 &&& 858993459)) + ((((x0 - ((x0.toUInt32 >>> ((1 : Int32).toUInt32 &&& Int32.toUInt32 31)).toInt32 &&& 1431655765)) &&& 858993459) + (((x0 - ((x0.toUInt32 >>> ((1 : Int32).toUInt32 &&& Int32.toUInt32 31)).toInt32 &&& 1431655765)).toUInt32 >>> ((2 : Int32).toUInt32 &&& Int32.toUInt32 31)).toInt32 &&& 858993459)).toUInt32 >>> ((4 : Int32).toUInt32 &&& Int32.toUInt32 31)).toInt32) &&& 252645135) + ((((((x0 - ((x0.toUInt32 >>> ((1 : Int32).toUInt32 &&& Int32.toUInt32 31)).toInt32 &&& 1431655765)) &&& 858993459) + (((x0 - ((x0.toUInt32 >>> ((1 : Int32).toUInt32 &&& Int32.toUInt32 31)).toInt32 &&& 1431655765)).toUInt32 >>> ((2 : Int32).toUInt32 &&& Int32.toUInt32 31)).toInt32 &&& 858993459)) + ((((x0 - ((x0.toUInt32 >>> ((1 : Int32).toUInt32 &&& Int32.toUInt32 31)).toInt32 &&& 1431655765)) &&& 858993459) + (((x0 - ((x0.toUInt32 >>> ((1 : Int32).toUInt32 &&& Int32.toUInt32 31)).toInt32 &&& 1431655765)).toUInt32 >>> ((2 : Int32).toUInt32 &&& Int32.toUInt32 31)).toInt32 &&& 858993459)).toUInt32 >>> ((4 : Int32).toUInt32 &&& Int32.toUInt32 31)).toInt32) &&& 252645135).toUInt32 >>> ((8 : Int32).toUInt32 &&& Int32.toUInt32 31)).toInt32).toUInt32 >>> ((16 : Int32).toUInt32 &&& Int32.toUInt32 31)).toInt32) &&& 63))])) (h' := (107, I, J, mm_rf rv sp rr w nw)) 41 rfl ?_
  cases e
  exact mm_T.ret rfl ⟨rfl, rfl⟩
set_option maxRecDepth 100000 in
set_option maxHeartbeats 4000000 in
theorem tX7_countOver (d n : Nat) (I : Nat → Nat → Int32) (J : Nat → Nat → Int64) (rv sp rr w nw : Nat) (hrv : rv = 3 ∨ rv = 19) (out : Int32) (e : fX7_countOver n I rv = some out) : mm_T none (d + 3) 117 (mm_ent 117 [(.ref 18)]) (107, I, J, mm_rf rv sp rr w nw) (fun v h => v = some (.int out) ∧ h = (107, I, J, mm_rf rv sp rr w nw)) := by
  rcases hrv with rfl | rfl
  · unfold fX7_countOver at e
    refine mm_T.seg (f' := (3, [some (.ref 18)], [(.int (-2)), (.ref 18)])) (h' := (107, I, J, mm_rf 3 sp rr w nw)) 2 rfl ?_
    obtain ⟨o2031, eo2031, e⟩ := mm_bind e
    refine mm_T.call (t := 116) (as := [(.ref 18), (.int (-2))]) (f' := (6, [some (.ref 18)], [])) rfl (tX7_loadsAt (d + 0) n (-2) I J 3 sp rr w nw (Or.inl rfl) o2031 eo2031) (fun v h hq => ?_)
    obtain ⟨rfl, rfl⟩ := hq
    obtain ⟨g310, hg310⟩ : ∃ z, fJ6_bitCount o2031 = z := ⟨_, rfl⟩
    try rw [hg310] at e
    refine mm_T.call (t := 345) (as := [(.int o2031)]) (f' := (9, [some (.ref 18)], [])) rfl (tJ6_bitCount (d + 2) o2031 I J 3 sp rr w nw g310 hg310) (fun v h hq => ?_)
    obtain ⟨rfl, rfl⟩ := hq
    cases e
    exact mm_T.ret rfl ⟨rfl, rfl⟩
  · unfold fX7_countOver at e
    refine mm_T.seg (f' := (3, [some (.ref 18)], [(.int (-2)), (.ref 18)])) (h' := (107, I, J, mm_rf 19 sp rr w nw)) 2 rfl ?_
    obtain ⟨o2031, eo2031, e⟩ := mm_bind e
    refine mm_T.call (t := 116) (as := [(.ref 18), (.int (-2))]) (f' := (6, [some (.ref 18)], [])) rfl (tX7_loadsAt (d + 0) n (-2) I J 19 sp rr w nw (Or.inr rfl) o2031 eo2031) (fun v h hq => ?_)
    obtain ⟨rfl, rfl⟩ := hq
    obtain ⟨g310, hg310⟩ : ∃ z, fJ6_bitCount o2031 = z := ⟨_, rfl⟩
    try rw [hg310] at e
    refine mm_T.call (t := 345) (as := [(.int o2031)]) (f' := (9, [some (.ref 18)], [])) rfl (tJ6_bitCount (d + 2) o2031 I J 19 sp rr w nw g310 hg310) (fun v h hq => ?_)
    obtain ⟨rfl, rfl⟩ := hq
    cases e
    exact mm_T.ret rfl ⟨rfl, rfl⟩
set_option maxRecDepth 100000 in
set_option maxHeartbeats 4000000 in
theorem tlX7_burdenOf_L4 (d : Nat) (Q : Option Value → mm_H → Prop) : ∀ (n : Nat) (y1 : Int32) (y2 : Int32) (y3 : Int32) (I : Nat → Nat → Int32) (J : Nat → Nat → Int64) (rv sp rr w nw : Nat), (rv = 3 ∨ rv = 19) → ∀ (out : Int32), fX7_burdenOf_L4 n y1 y2 y3 I rv = some out → mm_T none (d + 2) 118 (41, [none, none, some (.int out), none], []) (107, I, J, mm_rf rv sp rr w nw) Q → mm_T none (d + 2) 118 (4, [some (.ref 18), some (.int y1), some (.int y2), some (.int y3)], []) (107, I, J, mm_rf rv sp rr w nw) Q := by
  intro n
  induction n with
  | zero =>
    intro y1 y2 y3 I J rv sp rr w nw hrv out e k
    rw [fX7_burdenOf_L4] at e; cases e
  | succ n ih =>
    intro y1 y2 y3 I J rv sp rr w nw hrv out e k
    rcases hrv with rfl | rfl
    · rw [fX7_burdenOf_L4] at e
      refine mm_T.seg (f' := (9, [some (.ref 18), some (.int y1), some (.int y2), some (.int y3)], [(.ref 3), (.int y3)])) (h' := (107, I, J, mm_rf 3 sp rr w nw)) 3 rfl ?_
      refine mm_T.seg (f' := (12, [some (.ref 18), some (.int y1), some (.int y2), some (.int y3)], [(.int (I 3 5)), (.int y3)])) (h' := (107, I, J, mm_rf 3 sp rr w nw)) 1 rfl ?_
      refine mm_T.br (c := y3 < (I 3 5)) (a := ((15, [some (.ref 18), some (.int y1), some (.int y2), some (.int y3)], []), (107, I, J, mm_rf 3 sp rr w nw))) (b := ((41, [some (.ref 18), some (.int y1), some (.int y2), some (.int y3)], []), (107, I, J, mm_rf 3 sp rr w nw))) rfl (fun h2034 => ?_) (fun h2034 => ?_)
      · rw [if_pos h2034] at e
        refine mm_T.seg (f' := (17, [some (.ref 18), some (.int y1), some (.int y2), some (.int y3)], [(.int y3), (.ref 18)])) (h' := (107, I, J, mm_rf 3 sp rr w nw)) 2 rfl ?_
        obtain ⟨g313, hg313⟩ : ∃ z, fX7_placeOf y3 I = z := ⟨_, rfl⟩
        try rw [hg313] at e
        refine mm_T.call (t := 112) (as := [(.ref 18), (.int y3)]) (f' := (20, [some (.ref 18), some (.int y1), some (.int y2), some (.int y3)], [])) rfl (tX7_placeOf (d + 0) y3 I J 3 sp rr w nw g313 hg313) (fun v h hq => ?_)
        obtain ⟨rfl, rfl⟩ := hq
        refine mm_T.seg (f' := (21, [some (.ref 18), some (.int y1), some (.int y2), some (.int y3)], [(.int y1), (.int g313)])) (h' := (107, I, J, mm_rf 3 sp rr w nw)) 1 rfl ?_
        refine mm_T.br (c := g313 = y1) (a := ((24, [some (.ref 18), some (.int y1), some (.int y2), some (.int y3)], []), (107, I, J, mm_rf 3 sp rr w nw))) (b := ((35, [some (.ref 18), some (.int y1), some (.int y2), some (.int y3)], []), (107, I, J, mm_rf 3 sp rr w nw))) rfl (fun h2035 => ?_) (fun h2035 => ?_)
        · rw [if_pos h2035] at e
          refine mm_T.seg (f' := (29, [some (.ref 18), some (.int y1), some (.int y2), some (.int y3)], [(.ref 3), (.int y2)])) (h' := (107, I, J, mm_rf 3 sp rr w nw)) 3 rfl ?_
          refine mm_T.seg (f' := (30, [some (.ref 18), some (.int y1), some (.int y2), some (.int y3)], [(.int y3), (.ref 3), (.int y2)])) (h' := (107, I, J, mm_rf 3 sp rr w nw)) 1 rfl ?_
          obtain ⟨g314, hg314⟩ : ∃ z, fX5_loadWide y3 3 I = z := ⟨_, rfl⟩
          try rw [hg314] at e
          refine mm_T.call (t := 80) (as := [(.ref 3), (.int y3)]) (f' := (33, [some (.ref 18), some (.int y1), some (.int y2), some (.int y3)], [(.int y2)])) rfl (tX5_loadWide (d + 0) y3 3 I J 3 sp rr w nw (Or.inl rfl) g314 hg314) (fun v h hq => ?_)
          obtain ⟨rfl, rfl⟩ := hq
          refine mm_T.seg (f' := (4, [some (.ref 18), some (.int y1), some (.int (y2 + g314)), some (.int (y3 + 1))], [])) (h' := (107, I, J, mm_rf 3 sp rr w nw)) 4 rfl ?_
          refine mm_T.mask [true, true, true, true] ?_
          exact ih y1 (y2 + g314) (y3 + 1) I J 3 sp rr w nw (Or.inl rfl) out e k
        · rw [if_neg h2035] at e
          refine mm_T.seg (f' := (4, [some (.ref 18), some (.int y1), some (.int y2), some (.int (y3 + 1))], [])) (h' := (107, I, J, mm_rf 3 sp rr w nw)) 2 rfl ?_
          refine mm_T.mask [true, true, true, true] ?_
          exact ih y1 y2 (y3 + 1) I J 3 sp rr w nw (Or.inl rfl) out e k
      · rw [if_neg h2034] at e
        cases e
        refine mm_T.mask [false, false, true, false] ?_
        exact k
    · rw [fX7_burdenOf_L4] at e
      refine mm_T.seg (f' := (9, [some (.ref 18), some (.int y1), some (.int y2), some (.int y3)], [(.ref 19), (.int y3)])) (h' := (107, I, J, mm_rf 19 sp rr w nw)) 3 rfl ?_
      refine mm_T.seg (f' := (12, [some (.ref 18), some (.int y1), some (.int y2), some (.int y3)], [(.int (I 19 5)), (.int y3)])) (h' := (107, I, J, mm_rf 19 sp rr w nw)) 1 rfl ?_
      refine mm_T.br (c := y3 < (I 19 5)) (a := ((15, [some (.ref 18), some (.int y1), some (.int y2), some (.int y3)], []), (107, I, J, mm_rf 19 sp rr w nw))) (b := ((41, [some (.ref 18), some (.int y1), some (.int y2), some (.int y3)], []), (107, I, J, mm_rf 19 sp rr w nw))) rfl (fun h2034 => ?_) (fun h2034 => ?_)
      · rw [if_pos h2034] at e
        refine mm_T.seg (f' := (17, [some (.ref 18), some (.int y1), some (.int y2), some (.int y3)], [(.int y3), (.ref 18)])) (h' := (107, I, J, mm_rf 19 sp rr w nw)) 2 rfl ?_
        obtain ⟨g313, hg313⟩ : ∃ z, fX7_placeOf y3 I = z := ⟨_, rfl⟩
        try rw [hg313] at e
        refine mm_T.call (t := 112) (as := [(.ref 18), (.int y3)]) (f' := (20, [some (.ref 18), some (.int y1), some (.int y2), some (.int y3)], [])) rfl (tX7_placeOf (d + 0) y3 I J 19 sp rr w nw g313 hg313) (fun v h hq => ?_)
        obtain ⟨rfl, rfl⟩ := hq
        refine mm_T.seg (f' := (21, [some (.ref 18), some (.int y1), some (.int y2), some (.int y3)], [(.int y1), (.int g313)])) (h' := (107, I, J, mm_rf 19 sp rr w nw)) 1 rfl ?_
        refine mm_T.br (c := g313 = y1) (a := ((24, [some (.ref 18), some (.int y1), some (.int y2), some (.int y3)], []), (107, I, J, mm_rf 19 sp rr w nw))) (b := ((35, [some (.ref 18), some (.int y1), some (.int y2), some (.int y3)], []), (107, I, J, mm_rf 19 sp rr w nw))) rfl (fun h2035 => ?_) (fun h2035 => ?_)
        · rw [if_pos h2035] at e
          refine mm_T.seg (f' := (29, [some (.ref 18), some (.int y1), some (.int y2), some (.int y3)], [(.ref 19), (.int y2)])) (h' := (107, I, J, mm_rf 19 sp rr w nw)) 3 rfl ?_
          refine mm_T.seg (f' := (30, [some (.ref 18), some (.int y1), some (.int y2), some (.int y3)], [(.int y3), (.ref 19), (.int y2)])) (h' := (107, I, J, mm_rf 19 sp rr w nw)) 1 rfl ?_
          obtain ⟨g314, hg314⟩ : ∃ z, fX5_loadWide y3 19 I = z := ⟨_, rfl⟩
          try rw [hg314] at e
          refine mm_T.call (t := 80) (as := [(.ref 19), (.int y3)]) (f' := (33, [some (.ref 18), some (.int y1), some (.int y2), some (.int y3)], [(.int y2)])) rfl (tX5_loadWide (d + 0) y3 19 I J 19 sp rr w nw (Or.inr rfl) g314 hg314) (fun v h hq => ?_)
          obtain ⟨rfl, rfl⟩ := hq
          refine mm_T.seg (f' := (4, [some (.ref 18), some (.int y1), some (.int (y2 + g314)), some (.int (y3 + 1))], [])) (h' := (107, I, J, mm_rf 19 sp rr w nw)) 4 rfl ?_
          refine mm_T.mask [true, true, true, true] ?_
          exact ih y1 (y2 + g314) (y3 + 1) I J 19 sp rr w nw (Or.inr rfl) out e k
        · rw [if_neg h2035] at e
          refine mm_T.seg (f' := (4, [some (.ref 18), some (.int y1), some (.int y2), some (.int (y3 + 1))], [])) (h' := (107, I, J, mm_rf 19 sp rr w nw)) 2 rfl ?_
          refine mm_T.mask [true, true, true, true] ?_
          exact ih y1 y2 (y3 + 1) I J 19 sp rr w nw (Or.inr rfl) out e k
      · rw [if_neg h2034] at e
        cases e
        refine mm_T.mask [false, false, true, false] ?_
        exact k
set_option maxRecDepth 100000 in
set_option maxHeartbeats 4000000 in
theorem tX7_burdenOf (d n : Nat) (x1 : Int32) (I : Nat → Nat → Int32) (J : Nat → Nat → Int64) (rv sp rr w nw : Nat) (hrv : rv = 3 ∨ rv = 19) (out : Int32) (e : fX7_burdenOf n x1 I rv = some out) : mm_T none (d + 2) 118 (mm_ent 118 [(.ref 18), (.int x1)]) (107, I, J, mm_rf rv sp rr w nw) (fun v h => v = some (.int out) ∧ h = (107, I, J, mm_rf rv sp rr w nw)) := by
  rcases hrv with rfl | rfl
  · unfold fX7_burdenOf at e
    refine mm_T.seg (f' := (4, [some (.ref 18), some (.int x1), some (.int 0), some (.int 0)], [])) (h' := (107, I, J, mm_rf 3 sp rr w nw)) 4 rfl ?_
    refine mm_T.mask [true, true, true, true] ?_
    obtain ⟨o2036, eo2036, e⟩ := mm_bind e
    refine tlX7_burdenOf_L4 d _ n x1 0 0 I J 3 sp rr w nw (Or.inl rfl) o2036 eo2036 ?_
    refine mm_T.seg (f' := (42, [none, none, some (.int o2036), none], [(.int o2036)])) (h' := (107, I, J, mm_rf 3 sp rr w nw)) 1 rfl ?_
    cases e
    exact mm_T.ret rfl ⟨rfl, rfl⟩
  · unfold fX7_burdenOf at e
    refine mm_T.seg (f' := (4, [some (.ref 18), some (.int x1), some (.int 0), some (.int 0)], [])) (h' := (107, I, J, mm_rf 19 sp rr w nw)) 4 rfl ?_
    refine mm_T.mask [true, true, true, true] ?_
    obtain ⟨o2036, eo2036, e⟩ := mm_bind e
    refine tlX7_burdenOf_L4 d _ n x1 0 0 I J 19 sp rr w nw (Or.inr rfl) o2036 eo2036 ?_
    refine mm_T.seg (f' := (42, [none, none, some (.int o2036), none], [(.int o2036)])) (h' := (107, I, J, mm_rf 19 sp rr w nw)) 1 rfl ?_
    cases e
    exact mm_T.ret rfl ⟨rfl, rfl⟩
set_option maxRecDepth 100000 in
set_option maxHeartbeats 4000000 in
theorem tX7_isAtBank (d : Nat) (x1 : Int32) (I : Nat → Nat → Int32) (J : Nat → Nat → Int64) (rv sp rr w nw : Nat) (hrv : rv = 3 ∨ rv = 19) (out : Int32) (e : fX7_isAtBank x1 I rv = out) : mm_T none (d + 3) 119 (mm_ent 119 [(.ref 18), (.int x1)]) (107, I, J, mm_rf rv sp rr w nw) (fun v h => v = some (.int out) ∧ h = (107, I, J, mm_rf rv sp rr w nw)) := by
  rcases hrv with rfl | rfl
  · unfold fX7_isAtBank at e
    refine mm_T.seg (f' := (2, [some (.ref 18), some (.int x1)], [(.int x1), (.ref 18)])) (h' := (107, I, J, mm_rf 3 sp rr w nw)) 2 rfl ?_
    refine mm_T.call (t := 106) (as := [(.ref 18), (.int x1)]) (f' := (5, [some (.ref 18), some (.int x1)], [])) rfl (tX7_rowOf (d + 0) x1 I J 3 sp rr w nw _ rfl) (fun v h hq => ?_)
    obtain ⟨rfl, rfl⟩ := hq
    refine mm_T.br (c := (fX7_rowOf x1 I) = 0) (a := ((23, [some (.ref 18), some (.int x1)], []), (107, I, J, mm_rf 3 sp rr w nw))) (b := ((8, [some (.ref 18), some (.int x1)], []), (107, I, J, mm_rf 3 sp rr w nw))) rfl (fun h2037 => ?_) (fun h2037 => ?_)
    · rw [if_pos h2037] at e
      refine mm_T.seg (f' := (28, [some (.ref 18), some (.int x1)], [(.int 1)])) (h' := (107, I, J, mm_rf 3 sp rr w nw)) 2 rfl ?_
      cases e
      exact mm_T.ret rfl ⟨rfl, rfl⟩
    · rw [if_neg h2037] at e
      refine mm_T.seg (f' := (10, [some (.ref 18), some (.int x1)], [(.int x1), (.ref 18)])) (h' := (107, I, J, mm_rf 3 sp rr w nw)) 2 rfl ?_
      refine mm_T.call (t := 106) (as := [(.ref 18), (.int x1)]) (f' := (13, [some (.ref 18), some (.int x1)], [])) rfl (tX7_rowOf (d + 0) x1 I J 3 sp rr w nw _ rfl) (fun v h hq => ?_)
      obtain ⟨rfl, rfl⟩ := hq
      refine mm_T.seg (f' := (17, [some (.ref 18), some (.int x1)], [(.ref 3), (.int (fX7_rowOf x1 I))])) (h' := (107, I, J, mm_rf 3 sp rr w nw)) 2 rfl ?_
      refine mm_T.seg (f' := (20, [some (.ref 18), some (.int x1)], [(.int (I 3 1)), (.int (fX7_rowOf x1 I))])) (h' := (107, I, J, mm_rf 3 sp rr w nw)) 1 rfl ?_
      refine mm_T.br (c := (fX7_rowOf x1 I) = (I 3 1)) (a := ((23, [some (.ref 18), some (.int x1)], []), (107, I, J, mm_rf 3 sp rr w nw))) (b := ((27, [some (.ref 18), some (.int x1)], []), (107, I, J, mm_rf 3 sp rr w nw))) rfl (fun h2038 => ?_) (fun h2038 => ?_)
      · rw [if_pos h2038] at e
        refine mm_T.seg (f' := (28, [some (.ref 18), some (.int x1)], [(.int 1)])) (h' := (107, I, J, mm_rf 3 sp rr w nw)) 2 rfl ?_
        cases e
        exact mm_T.ret rfl ⟨rfl, rfl⟩
      · rw [if_neg h2038] at e
        refine mm_T.seg (f' := (28, [some (.ref 18), some (.int x1)], [(.int 0)])) (h' := (107, I, J, mm_rf 3 sp rr w nw)) 1 rfl ?_
        cases e
        exact mm_T.ret rfl ⟨rfl, rfl⟩
  · unfold fX7_isAtBank at e
    refine mm_T.seg (f' := (2, [some (.ref 18), some (.int x1)], [(.int x1), (.ref 18)])) (h' := (107, I, J, mm_rf 19 sp rr w nw)) 2 rfl ?_
    refine mm_T.call (t := 106) (as := [(.ref 18), (.int x1)]) (f' := (5, [some (.ref 18), some (.int x1)], [])) rfl (tX7_rowOf (d + 0) x1 I J 19 sp rr w nw _ rfl) (fun v h hq => ?_)
    obtain ⟨rfl, rfl⟩ := hq
    refine mm_T.br (c := (fX7_rowOf x1 I) = 0) (a := ((23, [some (.ref 18), some (.int x1)], []), (107, I, J, mm_rf 19 sp rr w nw))) (b := ((8, [some (.ref 18), some (.int x1)], []), (107, I, J, mm_rf 19 sp rr w nw))) rfl (fun h2037 => ?_) (fun h2037 => ?_)
    · rw [if_pos h2037] at e
      refine mm_T.seg (f' := (28, [some (.ref 18), some (.int x1)], [(.int 1)])) (h' := (107, I, J, mm_rf 19 sp rr w nw)) 2 rfl ?_
      cases e
      exact mm_T.ret rfl ⟨rfl, rfl⟩
    · rw [if_neg h2037] at e
      refine mm_T.seg (f' := (10, [some (.ref 18), some (.int x1)], [(.int x1), (.ref 18)])) (h' := (107, I, J, mm_rf 19 sp rr w nw)) 2 rfl ?_
      refine mm_T.call (t := 106) (as := [(.ref 18), (.int x1)]) (f' := (13, [some (.ref 18), some (.int x1)], [])) rfl (tX7_rowOf (d + 0) x1 I J 19 sp rr w nw _ rfl) (fun v h hq => ?_)
      obtain ⟨rfl, rfl⟩ := hq
      refine mm_T.seg (f' := (17, [some (.ref 18), some (.int x1)], [(.ref 19), (.int (fX7_rowOf x1 I))])) (h' := (107, I, J, mm_rf 19 sp rr w nw)) 2 rfl ?_
      refine mm_T.seg (f' := (20, [some (.ref 18), some (.int x1)], [(.int (I 19 1)), (.int (fX7_rowOf x1 I))])) (h' := (107, I, J, mm_rf 19 sp rr w nw)) 1 rfl ?_
      refine mm_T.br (c := (fX7_rowOf x1 I) = (I 19 1)) (a := ((23, [some (.ref 18), some (.int x1)], []), (107, I, J, mm_rf 19 sp rr w nw))) (b := ((27, [some (.ref 18), some (.int x1)], []), (107, I, J, mm_rf 19 sp rr w nw))) rfl (fun h2038 => ?_) (fun h2038 => ?_)
      · rw [if_pos h2038] at e
        refine mm_T.seg (f' := (28, [some (.ref 18), some (.int x1)], [(.int 1)])) (h' := (107, I, J, mm_rf 19 sp rr w nw)) 2 rfl ?_
        cases e
        exact mm_T.ret rfl ⟨rfl, rfl⟩
      · rw [if_neg h2038] at e
        refine mm_T.seg (f' := (28, [some (.ref 18), some (.int x1)], [(.int 0)])) (h' := (107, I, J, mm_rf 19 sp rr w nw)) 1 rfl ?_
        cases e
        exact mm_T.ret rfl ⟨rfl, rfl⟩
set_option maxRecDepth 100000 in
set_option maxHeartbeats 4000000 in
theorem tX7_bankOf (d : Nat) (x1 : Int32) (I : Nat → Nat → Int32) (J : Nat → Nat → Int64) (rv sp rr w nw : Nat) (out : Int32) (e : fX7_bankOf x1 I = out) : mm_T none (d + 3) 120 (mm_ent 120 [(.ref 18), (.int x1)]) (107, I, J, mm_rf rv sp rr w nw) (fun v h => v = some (.int out) ∧ h = (107, I, J, mm_rf rv sp rr w nw)) := by
  unfold fX7_bankOf at e
  refine mm_T.seg (f' := (2, [some (.ref 18), some (.int x1)], [(.int x1), (.ref 18)])) (h' := (107, I, J, mm_rf rv sp rr w nw)) 2 rfl ?_
  obtain ⟨g315, hg315⟩ : ∃ z, fX7_rowOf x1 I = z := ⟨_, rfl⟩
  try rw [hg315] at e
  refine mm_T.call (t := 106) (as := [(.ref 18), (.int x1)]) (f' := (5, [some (.ref 18), some (.int x1)], [])) rfl (tX7_rowOf (d + 0) x1 I J rv sp rr w nw g315 hg315) (fun v h hq => ?_)
  obtain ⟨rfl, rfl⟩ := hq
  refine mm_T.br (c := g315 = 0) (a := ((8, [some (.ref 18), some (.int x1)], []), (107, I, J, mm_rf rv sp rr w nw))) (b := ((12, [some (.ref 18), some (.int x1)], []), (107, I, J, mm_rf rv sp rr w nw))) rfl (fun h2039 => ?_) (fun h2039 => ?_)
  · rw [if_pos h2039] at e
    refine mm_T.seg (f' := (14, [some (.ref 18), some (.int x1)], [(.int (-1))])) (h' := (107, I, J, mm_rf rv sp rr w nw)) 2 rfl ?_
    cases e
    exact mm_T.ret rfl ⟨rfl, rfl⟩
  · rw [if_neg h2039] at e
    refine mm_T.seg (f' := (14, [some (.ref 18), some (.int x1)], [(.int (-2))])) (h' := (107, I, J, mm_rf rv sp rr w nw)) 1 rfl ?_
    cases e
    exact mm_T.ret rfl ⟨rfl, rfl⟩
set_option maxRecDepth 100000 in
set_option maxHeartbeats 4000000 in
theorem tX7_canPut (d n : Nat) (x1 : Int32) (x2 : Int32) (I : Nat → Nat → Int32) (J : Nat → Nat → Int64) (rv sp rr w nw : Nat) (hrv : rv = 3 ∨ rv = 19) (out : Int32) (e : fX7_canPut n x1 x2 I rv = some out) : mm_T none (d + 4) 121 (mm_ent 121 [(.ref 18), (.int x1), (.int x2)]) (107, I, J, mm_rf rv sp rr w nw) (fun v h => v = some (.int out) ∧ h = (107, I, J, mm_rf rv sp rr w nw)) := by
  rcases hrv with rfl | rfl
  · unfold fX7_canPut at e
    refine mm_T.seg (f' := (2, [some (.ref 18), some (.int x1), some (.int x2)], [(.int x2), (.ref 18)])) (h' := (107, I, J, mm_rf 3 sp rr w nw)) 2 rfl ?_
    obtain ⟨g316, hg316⟩ : ∃ z, fX7_isAtBank x2 I 3 = z := ⟨_, rfl⟩
    try rw [hg316] at e
    refine mm_T.call (t := 119) (as := [(.ref 18), (.int x2)]) (f' := (5, [some (.ref 18), some (.int x1), some (.int x2)], [])) rfl (tX7_isAtBank (d + 0) x2 I J 3 sp rr w nw (Or.inl rfl) g316 hg316) (fun v h hq => ?_)
    obtain ⟨rfl, rfl⟩ := hq
    refine mm_T.br (c := g316 = 0) (a := ((50, [some (.ref 18), some (.int x1), some (.int x2)], []), (107, I, J, mm_rf 3 sp rr w nw))) (b := ((8, [some (.ref 18), some (.int x1), some (.int x2)], []), (107, I, J, mm_rf 3 sp rr w nw))) rfl (fun h2040 => ?_) (fun h2040 => ?_)
    · rw [if_pos h2040] at e
      refine mm_T.seg (f' := (51, [some (.ref 18), some (.int x1), some (.int x2)], [(.int 0)])) (h' := (107, I, J, mm_rf 3 sp rr w nw)) 1 rfl ?_
      cases e
      exact mm_T.ret rfl ⟨rfl, rfl⟩
    · rw [if_neg h2040] at e
      refine mm_T.seg (f' := (10, [some (.ref 18), some (.int x1), some (.int x2)], [(.int x1), (.ref 18)])) (h' := (107, I, J, mm_rf 3 sp rr w nw)) 2 rfl ?_
      obtain ⟨g317, hg317⟩ : ∃ z, fX7_placeOf x1 I = z := ⟨_, rfl⟩
      try rw [hg317] at e
      refine mm_T.call (t := 112) (as := [(.ref 18), (.int x1)]) (f' := (13, [some (.ref 18), some (.int x1), some (.int x2)], [])) rfl (tX7_placeOf (d + 2) x1 I J 3 sp rr w nw g317 hg317) (fun v h hq => ?_)
      obtain ⟨rfl, rfl⟩ := hq
      refine mm_T.seg (f' := (15, [some (.ref 18), some (.int x1), some (.int x2)], [(.int x2), (.ref 18), (.int g317)])) (h' := (107, I, J, mm_rf 3 sp rr w nw)) 2 rfl ?_
      obtain ⟨g318, hg318⟩ : ∃ z, fX7_bankOf x2 I = z := ⟨_, rfl⟩
      try rw [hg318] at e
      refine mm_T.call (t := 120) (as := [(.ref 18), (.int x2)]) (f' := (18, [some (.ref 18), some (.int x1), some (.int x2)], [(.int g317)])) rfl (tX7_bankOf (d + 0) x2 I J 3 sp rr w nw g318 hg318) (fun v h hq => ?_)
      obtain ⟨rfl, rfl⟩ := hq
      refine mm_T.br (c := g317 = g318) (a := ((21, [some (.ref 18), some (.int x1), some (.int x2)], []), (107, I, J, mm_rf 3 sp rr w nw))) (b := ((50, [some (.ref 18), some (.int x1), some (.int x2)], []), (107, I, J, mm_rf 3 sp rr w nw))) rfl (fun h2041 => ?_) (fun h2041 => ?_)
      · rw [if_pos h2041] at e
        refine mm_T.seg (f' := (23, [some (.ref 18), some (.int x1), some (.int x2)], [(.int x2), (.ref 18)])) (h' := (107, I, J, mm_rf 3 sp rr w nw)) 2 rfl ?_
        obtain ⟨o2042, eo2042, e⟩ := mm_bind e
        refine mm_T.call (t := 118) (as := [(.ref 18), (.int x2)]) (f' := (26, [some (.ref 18), some (.int x1), some (.int x2)], [])) rfl (tX7_burdenOf (d + 1) n x2 I J 3 sp rr w nw (Or.inl rfl) o2042 eo2042) (fun v h hq => ?_)
        obtain ⟨rfl, rfl⟩ := hq
        refine mm_T.seg (f' := (30, [some (.ref 18), some (.int x1), some (.int x2)], [(.ref 3), (.int o2042)])) (h' := (107, I, J, mm_rf 3 sp rr w nw)) 2 rfl ?_
        refine mm_T.seg (f' := (31, [some (.ref 18), some (.int x1), some (.int x2)], [(.int x1), (.ref 3), (.int o2042)])) (h' := (107, I, J, mm_rf 3 sp rr w nw)) 1 rfl ?_
        obtain ⟨g319, hg319⟩ : ∃ z, fX5_loadWide x1 3 I = z := ⟨_, rfl⟩
        try rw [hg319] at e
        refine mm_T.call (t := 80) (as := [(.ref 3), (.int x1)]) (f' := (34, [some (.ref 18), some (.int x1), some (.int x2)], [(.int o2042)])) rfl (tX5_loadWide (d + 2) x1 3 I J 3 sp rr w nw (Or.inl rfl) g319 hg319) (fun v h hq => ?_)
        obtain ⟨rfl, rfl⟩ := hq
        refine mm_T.seg (f' := (39, [some (.ref 18), some (.int x1), some (.int x2)], [(.ref 3), (.int (o2042 + g319))])) (h' := (107, I, J, mm_rf 3 sp rr w nw)) 3 rfl ?_
        refine mm_T.seg (f' := (40, [some (.ref 18), some (.int x1), some (.int x2)], [(.int x2), (.ref 3), (.int (o2042 + g319))])) (h' := (107, I, J, mm_rf 3 sp rr w nw)) 1 rfl ?_
        obtain ⟨g320, hg320⟩ : ∃ z, fX5_wideOf x2 3 I = z := ⟨_, rfl⟩
        try rw [hg320] at e
        refine mm_T.call (t := 77) (as := [(.ref 3), (.int x2)]) (f' := (43, [some (.ref 18), some (.int x1), some (.int x2)], [(.int (o2042 + g319))])) rfl (tX5_wideOf (d + 2) x2 3 I J 3 sp rr w nw (Or.inl rfl) g320 hg320) (fun v h hq => ?_)
        obtain ⟨rfl, rfl⟩ := hq
        refine mm_T.br (c := g320 < (o2042 + g319)) (a := ((50, [some (.ref 18), some (.int x1), some (.int x2)], []), (107, I, J, mm_rf 3 sp rr w nw))) (b := ((46, [some (.ref 18), some (.int x1), some (.int x2)], []), (107, I, J, mm_rf 3 sp rr w nw))) rfl (fun h2043 => ?_) (fun h2043 => ?_)
        · rw [if_pos h2043] at e
          refine mm_T.seg (f' := (51, [some (.ref 18), some (.int x1), some (.int x2)], [(.int 0)])) (h' := (107, I, J, mm_rf 3 sp rr w nw)) 1 rfl ?_
          cases e
          exact mm_T.ret rfl ⟨rfl, rfl⟩
        · rw [if_neg h2043] at e
          refine mm_T.seg (f' := (51, [some (.ref 18), some (.int x1), some (.int x2)], [(.int 1)])) (h' := (107, I, J, mm_rf 3 sp rr w nw)) 2 rfl ?_
          cases e
          exact mm_T.ret rfl ⟨rfl, rfl⟩
      · rw [if_neg h2041] at e
        refine mm_T.seg (f' := (51, [some (.ref 18), some (.int x1), some (.int x2)], [(.int 0)])) (h' := (107, I, J, mm_rf 3 sp rr w nw)) 1 rfl ?_
        cases e
        exact mm_T.ret rfl ⟨rfl, rfl⟩
  · unfold fX7_canPut at e
    refine mm_T.seg (f' := (2, [some (.ref 18), some (.int x1), some (.int x2)], [(.int x2), (.ref 18)])) (h' := (107, I, J, mm_rf 19 sp rr w nw)) 2 rfl ?_
    obtain ⟨g316, hg316⟩ : ∃ z, fX7_isAtBank x2 I 19 = z := ⟨_, rfl⟩
    try rw [hg316] at e
    refine mm_T.call (t := 119) (as := [(.ref 18), (.int x2)]) (f' := (5, [some (.ref 18), some (.int x1), some (.int x2)], [])) rfl (tX7_isAtBank (d + 0) x2 I J 19 sp rr w nw (Or.inr rfl) g316 hg316) (fun v h hq => ?_)
    obtain ⟨rfl, rfl⟩ := hq
    refine mm_T.br (c := g316 = 0) (a := ((50, [some (.ref 18), some (.int x1), some (.int x2)], []), (107, I, J, mm_rf 19 sp rr w nw))) (b := ((8, [some (.ref 18), some (.int x1), some (.int x2)], []), (107, I, J, mm_rf 19 sp rr w nw))) rfl (fun h2040 => ?_) (fun h2040 => ?_)
    · rw [if_pos h2040] at e
      refine mm_T.seg (f' := (51, [some (.ref 18), some (.int x1), some (.int x2)], [(.int 0)])) (h' := (107, I, J, mm_rf 19 sp rr w nw)) 1 rfl ?_
      cases e
      exact mm_T.ret rfl ⟨rfl, rfl⟩
    · rw [if_neg h2040] at e
      refine mm_T.seg (f' := (10, [some (.ref 18), some (.int x1), some (.int x2)], [(.int x1), (.ref 18)])) (h' := (107, I, J, mm_rf 19 sp rr w nw)) 2 rfl ?_
      obtain ⟨g317, hg317⟩ : ∃ z, fX7_placeOf x1 I = z := ⟨_, rfl⟩
      try rw [hg317] at e
      refine mm_T.call (t := 112) (as := [(.ref 18), (.int x1)]) (f' := (13, [some (.ref 18), some (.int x1), some (.int x2)], [])) rfl (tX7_placeOf (d + 2) x1 I J 19 sp rr w nw g317 hg317) (fun v h hq => ?_)
      obtain ⟨rfl, rfl⟩ := hq
      refine mm_T.seg (f' := (15, [some (.ref 18), some (.int x1), some (.int x2)], [(.int x2), (.ref 18), (.int g317)])) (h' := (107, I, J, mm_rf 19 sp rr w nw)) 2 rfl ?_
      obtain ⟨g318, hg318⟩ : ∃ z, fX7_bankOf x2 I = z := ⟨_, rfl⟩
      try rw [hg318] at e
      refine mm_T.call (t := 120) (as := [(.ref 18), (.int x2)]) (f' := (18, [some (.ref 18), some (.int x1), some (.int x2)], [(.int g317)])) rfl (tX7_bankOf (d + 0) x2 I J 19 sp rr w nw g318 hg318) (fun v h hq => ?_)
      obtain ⟨rfl, rfl⟩ := hq
      refine mm_T.br (c := g317 = g318) (a := ((21, [some (.ref 18), some (.int x1), some (.int x2)], []), (107, I, J, mm_rf 19 sp rr w nw))) (b := ((50, [some (.ref 18), some (.int x1), some (.int x2)], []), (107, I, J, mm_rf 19 sp rr w nw))) rfl (fun h2041 => ?_) (fun h2041 => ?_)
      · rw [if_pos h2041] at e
        refine mm_T.seg (f' := (23, [some (.ref 18), some (.int x1), some (.int x2)], [(.int x2), (.ref 18)])) (h' := (107, I, J, mm_rf 19 sp rr w nw)) 2 rfl ?_
        obtain ⟨o2042, eo2042, e⟩ := mm_bind e
        refine mm_T.call (t := 118) (as := [(.ref 18), (.int x2)]) (f' := (26, [some (.ref 18), some (.int x1), some (.int x2)], [])) rfl (tX7_burdenOf (d + 1) n x2 I J 19 sp rr w nw (Or.inr rfl) o2042 eo2042) (fun v h hq => ?_)
        obtain ⟨rfl, rfl⟩ := hq
        refine mm_T.seg (f' := (30, [some (.ref 18), some (.int x1), some (.int x2)], [(.ref 19), (.int o2042)])) (h' := (107, I, J, mm_rf 19 sp rr w nw)) 2 rfl ?_
        refine mm_T.seg (f' := (31, [some (.ref 18), some (.int x1), some (.int x2)], [(.int x1), (.ref 19), (.int o2042)])) (h' := (107, I, J, mm_rf 19 sp rr w nw)) 1 rfl ?_
        obtain ⟨g319, hg319⟩ : ∃ z, fX5_loadWide x1 19 I = z := ⟨_, rfl⟩
        try rw [hg319] at e
        refine mm_T.call (t := 80) (as := [(.ref 19), (.int x1)]) (f' := (34, [some (.ref 18), some (.int x1), some (.int x2)], [(.int o2042)])) rfl (tX5_loadWide (d + 2) x1 19 I J 19 sp rr w nw (Or.inr rfl) g319 hg319) (fun v h hq => ?_)
        obtain ⟨rfl, rfl⟩ := hq
        refine mm_T.seg (f' := (39, [some (.ref 18), some (.int x1), some (.int x2)], [(.ref 19), (.int (o2042 + g319))])) (h' := (107, I, J, mm_rf 19 sp rr w nw)) 3 rfl ?_
        refine mm_T.seg (f' := (40, [some (.ref 18), some (.int x1), some (.int x2)], [(.int x2), (.ref 19), (.int (o2042 + g319))])) (h' := (107, I, J, mm_rf 19 sp rr w nw)) 1 rfl ?_
        obtain ⟨g320, hg320⟩ : ∃ z, fX5_wideOf x2 19 I = z := ⟨_, rfl⟩
        try rw [hg320] at e
        refine mm_T.call (t := 77) (as := [(.ref 19), (.int x2)]) (f' := (43, [some (.ref 18), some (.int x1), some (.int x2)], [(.int (o2042 + g319))])) rfl (tX5_wideOf (d + 2) x2 19 I J 19 sp rr w nw (Or.inr rfl) g320 hg320) (fun v h hq => ?_)
        obtain ⟨rfl, rfl⟩ := hq
        refine mm_T.br (c := g320 < (o2042 + g319)) (a := ((50, [some (.ref 18), some (.int x1), some (.int x2)], []), (107, I, J, mm_rf 19 sp rr w nw))) (b := ((46, [some (.ref 18), some (.int x1), some (.int x2)], []), (107, I, J, mm_rf 19 sp rr w nw))) rfl (fun h2043 => ?_) (fun h2043 => ?_)
        · rw [if_pos h2043] at e
          refine mm_T.seg (f' := (51, [some (.ref 18), some (.int x1), some (.int x2)], [(.int 0)])) (h' := (107, I, J, mm_rf 19 sp rr w nw)) 1 rfl ?_
          cases e
          exact mm_T.ret rfl ⟨rfl, rfl⟩
        · rw [if_neg h2043] at e
          refine mm_T.seg (f' := (51, [some (.ref 18), some (.int x1), some (.int x2)], [(.int 1)])) (h' := (107, I, J, mm_rf 19 sp rr w nw)) 2 rfl ?_
          cases e
          exact mm_T.ret rfl ⟨rfl, rfl⟩
      · rw [if_neg h2041] at e
        refine mm_T.seg (f' := (51, [some (.ref 18), some (.int x1), some (.int x2)], [(.int 0)])) (h' := (107, I, J, mm_rf 19 sp rr w nw)) 1 rfl ?_
        cases e
        exact mm_T.ret rfl ⟨rfl, rfl⟩
set_option maxRecDepth 100000 in
set_option maxHeartbeats 4000000 in
theorem tX7_canStroke (d : Nat) (x1 : Int32) (x2 : Int32) (I : Nat → Nat → Int32) (J : Nat → Nat → Int64) (rv sp rr w nw : Nat) (hrv : rv = 3 ∨ rv = 19) (out : Int32) (e : fX7_canStroke x1 x2 I rv = out) : mm_T none (d + 3) 122 (mm_ent 122 [(.ref 18), (.int x1), (.int x2)]) (107, I, J, mm_rf rv sp rr w nw) (fun v h => v = some (.int out) ∧ h = (107, I, J, mm_rf rv sp rr w nw)) := by
  rcases hrv with rfl | rfl
  · unfold fX7_canStroke at e
    refine mm_T.seg (f' := (1, [some (.ref 18), some (.int x1), some (.int x2)], [(.int x2)])) (h' := (107, I, J, mm_rf 3 sp rr w nw)) 1 rfl ?_
    refine mm_T.br (c := x2 = 0) (a := ((27, [some (.ref 18), some (.int x1), some (.int x2)], []), (107, I, J, mm_rf 3 sp rr w nw))) (b := ((4, [some (.ref 18), some (.int x1), some (.int x2)], []), (107, I, J, mm_rf 3 sp rr w nw))) rfl (fun h2044 => ?_) (fun h2044 => ?_)
    · rw [if_pos h2044] at e
      refine mm_T.seg (f' := (29, [some (.ref 18), some (.int x1), some (.int x2)], [(.int x1), (.ref 18)])) (h' := (107, I, J, mm_rf 3 sp rr w nw)) 2 rfl ?_
      obtain ⟨g321, hg321⟩ : ∃ z, fX7_rowOf x1 I = z := ⟨_, rfl⟩
      try rw [hg321] at e
      refine mm_T.call (t := 106) (as := [(.ref 18), (.int x1)]) (f' := (32, [some (.ref 18), some (.int x1), some (.int x2)], [])) rfl (tX7_rowOf (d + 0) x1 I J 3 sp rr w nw g321 hg321) (fun v h hq => ?_)
      obtain ⟨rfl, rfl⟩ := hq
      refine mm_T.br (c := 0 < g321) (a := ((35, [some (.ref 18), some (.int x1), some (.int x2)], []), (107, I, J, mm_rf 3 sp rr w nw))) (b := ((39, [some (.ref 18), some (.int x1), some (.int x2)], []), (107, I, J, mm_rf 3 sp rr w nw))) rfl (fun h2045 => ?_) (fun h2045 => ?_)
      · rw [if_pos h2045] at e
        refine mm_T.seg (f' := (40, [some (.ref 18), some (.int x1), some (.int x2)], [(.int 1)])) (h' := (107, I, J, mm_rf 3 sp rr w nw)) 2 rfl ?_
        cases e
        exact mm_T.ret rfl ⟨rfl, rfl⟩
      · rw [if_neg h2045] at e
        refine mm_T.seg (f' := (40, [some (.ref 18), some (.int x1), some (.int x2)], [(.int 0)])) (h' := (107, I, J, mm_rf 3 sp rr w nw)) 1 rfl ?_
        cases e
        exact mm_T.ret rfl ⟨rfl, rfl⟩
    · rw [if_neg h2044] at e
      refine mm_T.seg (f' := (6, [some (.ref 18), some (.int x1), some (.int x2)], [(.int x1), (.ref 18)])) (h' := (107, I, J, mm_rf 3 sp rr w nw)) 2 rfl ?_
      obtain ⟨g322, hg322⟩ : ∃ z, fX7_rowOf x1 I = z := ⟨_, rfl⟩
      try rw [hg322] at e
      refine mm_T.call (t := 106) (as := [(.ref 18), (.int x1)]) (f' := (9, [some (.ref 18), some (.int x1), some (.int x2)], [])) rfl (tX7_rowOf (d + 0) x1 I J 3 sp rr w nw g322 hg322) (fun v h hq => ?_)
      obtain ⟨rfl, rfl⟩ := hq
      refine mm_T.seg (f' := (13, [some (.ref 18), some (.int x1), some (.int x2)], [(.ref 3), (.int g322)])) (h' := (107, I, J, mm_rf 3 sp rr w nw)) 2 rfl ?_
      refine mm_T.seg (f' := (16, [some (.ref 18), some (.int x1), some (.int x2)], [(.int (I 3 1)), (.int g322)])) (h' := (107, I, J, mm_rf 3 sp rr w nw)) 1 rfl ?_
      refine mm_T.br (c := g322 < (I 3 1)) (a := ((19, [some (.ref 18), some (.int x1), some (.int x2)], []), (107, I, J, mm_rf 3 sp rr w nw))) (b := ((23, [some (.ref 18), some (.int x1), some (.int x2)], []), (107, I, J, mm_rf 3 sp rr w nw))) rfl (fun h2046 => ?_) (fun h2046 => ?_)
      · rw [if_pos h2046] at e
        refine mm_T.seg (f' := (40, [some (.ref 18), some (.int x1), some (.int x2)], [(.int 1)])) (h' := (107, I, J, mm_rf 3 sp rr w nw)) 2 rfl ?_
        cases e
        exact mm_T.ret rfl ⟨rfl, rfl⟩
      · rw [if_neg h2046] at e
        refine mm_T.seg (f' := (40, [some (.ref 18), some (.int x1), some (.int x2)], [(.int 0)])) (h' := (107, I, J, mm_rf 3 sp rr w nw)) 2 rfl ?_
        cases e
        exact mm_T.ret rfl ⟨rfl, rfl⟩
  · unfold fX7_canStroke at e
    refine mm_T.seg (f' := (1, [some (.ref 18), some (.int x1), some (.int x2)], [(.int x2)])) (h' := (107, I, J, mm_rf 19 sp rr w nw)) 1 rfl ?_
    refine mm_T.br (c := x2 = 0) (a := ((27, [some (.ref 18), some (.int x1), some (.int x2)], []), (107, I, J, mm_rf 19 sp rr w nw))) (b := ((4, [some (.ref 18), some (.int x1), some (.int x2)], []), (107, I, J, mm_rf 19 sp rr w nw))) rfl (fun h2044 => ?_) (fun h2044 => ?_)
    · rw [if_pos h2044] at e
      refine mm_T.seg (f' := (29, [some (.ref 18), some (.int x1), some (.int x2)], [(.int x1), (.ref 18)])) (h' := (107, I, J, mm_rf 19 sp rr w nw)) 2 rfl ?_
      obtain ⟨g321, hg321⟩ : ∃ z, fX7_rowOf x1 I = z := ⟨_, rfl⟩
      try rw [hg321] at e
      refine mm_T.call (t := 106) (as := [(.ref 18), (.int x1)]) (f' := (32, [some (.ref 18), some (.int x1), some (.int x2)], [])) rfl (tX7_rowOf (d + 0) x1 I J 19 sp rr w nw g321 hg321) (fun v h hq => ?_)
      obtain ⟨rfl, rfl⟩ := hq
      refine mm_T.br (c := 0 < g321) (a := ((35, [some (.ref 18), some (.int x1), some (.int x2)], []), (107, I, J, mm_rf 19 sp rr w nw))) (b := ((39, [some (.ref 18), some (.int x1), some (.int x2)], []), (107, I, J, mm_rf 19 sp rr w nw))) rfl (fun h2045 => ?_) (fun h2045 => ?_)
      · rw [if_pos h2045] at e
        refine mm_T.seg (f' := (40, [some (.ref 18), some (.int x1), some (.int x2)], [(.int 1)])) (h' := (107, I, J, mm_rf 19 sp rr w nw)) 2 rfl ?_
        cases e
        exact mm_T.ret rfl ⟨rfl, rfl⟩
      · rw [if_neg h2045] at e
        refine mm_T.seg (f' := (40, [some (.ref 18), some (.int x1), some (.int x2)], [(.int 0)])) (h' := (107, I, J, mm_rf 19 sp rr w nw)) 1 rfl ?_
        cases e
        exact mm_T.ret rfl ⟨rfl, rfl⟩
    · rw [if_neg h2044] at e
      refine mm_T.seg (f' := (6, [some (.ref 18), some (.int x1), some (.int x2)], [(.int x1), (.ref 18)])) (h' := (107, I, J, mm_rf 19 sp rr w nw)) 2 rfl ?_
      obtain ⟨g322, hg322⟩ : ∃ z, fX7_rowOf x1 I = z := ⟨_, rfl⟩
      try rw [hg322] at e
      refine mm_T.call (t := 106) (as := [(.ref 18), (.int x1)]) (f' := (9, [some (.ref 18), some (.int x1), some (.int x2)], [])) rfl (tX7_rowOf (d + 0) x1 I J 19 sp rr w nw g322 hg322) (fun v h hq => ?_)
      obtain ⟨rfl, rfl⟩ := hq
      refine mm_T.seg (f' := (13, [some (.ref 18), some (.int x1), some (.int x2)], [(.ref 19), (.int g322)])) (h' := (107, I, J, mm_rf 19 sp rr w nw)) 2 rfl ?_
      refine mm_T.seg (f' := (16, [some (.ref 18), some (.int x1), some (.int x2)], [(.int (I 19 1)), (.int g322)])) (h' := (107, I, J, mm_rf 19 sp rr w nw)) 1 rfl ?_
      refine mm_T.br (c := g322 < (I 19 1)) (a := ((19, [some (.ref 18), some (.int x1), some (.int x2)], []), (107, I, J, mm_rf 19 sp rr w nw))) (b := ((23, [some (.ref 18), some (.int x1), some (.int x2)], []), (107, I, J, mm_rf 19 sp rr w nw))) rfl (fun h2046 => ?_) (fun h2046 => ?_)
      · rw [if_pos h2046] at e
        refine mm_T.seg (f' := (40, [some (.ref 18), some (.int x1), some (.int x2)], [(.int 1)])) (h' := (107, I, J, mm_rf 19 sp rr w nw)) 2 rfl ?_
        cases e
        exact mm_T.ret rfl ⟨rfl, rfl⟩
      · rw [if_neg h2046] at e
        refine mm_T.seg (f' := (40, [some (.ref 18), some (.int x1), some (.int x2)], [(.int 0)])) (h' := (107, I, J, mm_rf 19 sp rr w nw)) 2 rfl ?_
        cases e
        exact mm_T.ret rfl ⟨rfl, rfl⟩
set_option maxRecDepth 100000 in
set_option maxHeartbeats 4000000 in
theorem tX7_nextWarmth (d n : Nat) (x1 : Int32) (I : Nat → Nat → Int32) (J : Nat → Nat → Int64) (rv sp rr w nw : Nat) (hrv : rv = 3 ∨ rv = 19) (out : Int32 × (Nat → Nat → Int32)) (e : fX7_nextWarmth n x1 I rv = some out) : mm_T none (d + 3) 123 (mm_ent 123 [(.ref 18), (.int x1)]) (107, I, J, mm_rf rv sp rr w nw) (fun v h => v = some (.int out.1) ∧ h = (107, out.2, J, mm_rf rv sp rr w nw)) := by
  rcases hrv with rfl | rfl
  · unfold fX7_nextWarmth at e
    refine mm_T.seg (f' := (4, [some (.ref 18), some (.int x1)], [(.ref 3)])) (h' := (107, I, J, mm_rf 3 sp rr w nw)) 2 rfl ?_
    refine mm_T.seg (f' := (7, [some (.ref 18), some (.int x1)], [(.int x1), (.ref 18), (.int x1), (.ref 3)])) (h' := (107, I, J, mm_rf 3 sp rr w nw)) 3 rfl ?_
    obtain ⟨g323, hg323⟩ : ∃ z, fX7_rowOf x1 I = z := ⟨_, rfl⟩
    try rw [hg323] at e
    refine mm_T.call (t := 106) (as := [(.ref 18), (.int x1)]) (f' := (10, [some (.ref 18), some (.int x1)], [(.int x1), (.ref 3)])) rfl (tX7_rowOf (d + 0) x1 I J 3 sp rr w nw g323 hg323) (fun v h hq => ?_)
    obtain ⟨rfl, rfl⟩ := hq
    refine mm_T.seg (f' := (12, [some (.ref 18), some (.int x1)], [(.int x1), (.ref 18), (.int g323), (.int x1), (.ref 3)])) (h' := (107, I, J, mm_rf 3 sp rr w nw)) 2 rfl ?_
    obtain ⟨g324, hg324⟩ : ∃ z, fX7_columnOf x1 I = z := ⟨_, rfl⟩
    try rw [hg324] at e
    refine mm_T.call (t := 105) (as := [(.ref 18), (.int x1)]) (f' := (15, [some (.ref 18), some (.int x1)], [(.int g323), (.int x1), (.ref 3)])) rfl (tX7_columnOf (d + 0) x1 I J 3 sp rr w nw g324 hg324) (fun v h hq => ?_)
    obtain ⟨rfl, rfl⟩ := hq
    refine mm_T.seg (f' := (17, [some (.ref 18), some (.int x1)], [(.int x1), (.ref 18), (.int g324), (.int g323), (.int x1), (.ref 3)])) (h' := (107, I, J, mm_rf 3 sp rr w nw)) 2 rfl ?_
    obtain ⟨o2047, eo2047, e⟩ := mm_bind e
    refine mm_T.call (t := 118) (as := [(.ref 18), (.int x1)]) (f' := (20, [some (.ref 18), some (.int x1)], [(.int g324), (.int g323), (.int x1), (.ref 3)])) rfl (tX7_burdenOf (d + 0) n x1 I J 3 sp rr w nw (Or.inl rfl) o2047 eo2047) (fun v h hq => ?_)
    obtain ⟨rfl, rfl⟩ := hq
    refine mm_T.seg (f' := (22, [some (.ref 18), some (.int x1)], [(.int x1), (.ref 18), (.int o2047), (.int g324), (.int g323), (.int x1), (.ref 3)])) (h' := (107, I, J, mm_rf 3 sp rr w nw)) 2 rfl ?_
    obtain ⟨g325, hg325⟩ : ∃ z, fX7_strokesOf x1 I = z := ⟨_, rfl⟩
    try rw [hg325] at e
    refine mm_T.call (t := 110) (as := [(.ref 18), (.int x1)]) (f' := (25, [some (.ref 18), some (.int x1)], [(.int o2047), (.int g324), (.int g323), (.int x1), (.ref 3)])) rfl (tX7_strokesOf (d + 0) x1 I J 3 sp rr w nw g325 hg325) (fun v h hq => ?_)
    obtain ⟨rfl, rfl⟩ := hq
    refine mm_T.seg (f' := (27, [some (.ref 18), some (.int x1)], [(.int x1), (.ref 18), (.int g325), (.int o2047), (.int g324), (.int g323), (.int x1), (.ref 3)])) (h' := (107, I, J, mm_rf 3 sp rr w nw)) 2 rfl ?_
    obtain ⟨g326, hg326⟩ : ∃ z, fX7_heatOf x1 I = z := ⟨_, rfl⟩
    try rw [hg326] at e
    refine mm_T.call (t := 107) (as := [(.ref 18), (.int x1)]) (f' := (30, [some (.ref 18), some (.int x1)], [(.int g325), (.int o2047), (.int g324), (.int g323), (.int x1), (.ref 3)])) rfl (tX7_heatOf (d + 0) x1 I J 3 sp rr w nw g326 hg326) (fun v h hq => ?_)
    obtain ⟨rfl, rfl⟩ := hq
    obtain ⟨o2048, eo2048, e⟩ := mm_bind e
    refine mm_T.call (t := 82) (as := [(.ref 3), (.int x1), (.int g323), (.int g324), (.int o2047), (.int g325), (.int g326)]) (f' := (33, [some (.ref 18), some (.int x1)], [])) rfl (tX5_warmth (d + 0) n x1 g323 g324 o2047 g325 g326 3 I J 3 sp rr w nw (Or.inl rfl) o2048 eo2048) (fun v h hq => ?_)
    obtain ⟨rfl, rfl⟩ := hq
    cases e
    exact mm_T.ret rfl ⟨rfl, rfl⟩
  · unfold fX7_nextWarmth at e
    refine mm_T.seg (f' := (4, [some (.ref 18), some (.int x1)], [(.ref 19)])) (h' := (107, I, J, mm_rf 19 sp rr w nw)) 2 rfl ?_
    refine mm_T.seg (f' := (7, [some (.ref 18), some (.int x1)], [(.int x1), (.ref 18), (.int x1), (.ref 19)])) (h' := (107, I, J, mm_rf 19 sp rr w nw)) 3 rfl ?_
    obtain ⟨g323, hg323⟩ : ∃ z, fX7_rowOf x1 I = z := ⟨_, rfl⟩
    try rw [hg323] at e
    refine mm_T.call (t := 106) (as := [(.ref 18), (.int x1)]) (f' := (10, [some (.ref 18), some (.int x1)], [(.int x1), (.ref 19)])) rfl (tX7_rowOf (d + 0) x1 I J 19 sp rr w nw g323 hg323) (fun v h hq => ?_)
    obtain ⟨rfl, rfl⟩ := hq
    refine mm_T.seg (f' := (12, [some (.ref 18), some (.int x1)], [(.int x1), (.ref 18), (.int g323), (.int x1), (.ref 19)])) (h' := (107, I, J, mm_rf 19 sp rr w nw)) 2 rfl ?_
    obtain ⟨g324, hg324⟩ : ∃ z, fX7_columnOf x1 I = z := ⟨_, rfl⟩
    try rw [hg324] at e
    refine mm_T.call (t := 105) (as := [(.ref 18), (.int x1)]) (f' := (15, [some (.ref 18), some (.int x1)], [(.int g323), (.int x1), (.ref 19)])) rfl (tX7_columnOf (d + 0) x1 I J 19 sp rr w nw g324 hg324) (fun v h hq => ?_)
    obtain ⟨rfl, rfl⟩ := hq
    refine mm_T.seg (f' := (17, [some (.ref 18), some (.int x1)], [(.int x1), (.ref 18), (.int g324), (.int g323), (.int x1), (.ref 19)])) (h' := (107, I, J, mm_rf 19 sp rr w nw)) 2 rfl ?_
    obtain ⟨o2047, eo2047, e⟩ := mm_bind e
    refine mm_T.call (t := 118) (as := [(.ref 18), (.int x1)]) (f' := (20, [some (.ref 18), some (.int x1)], [(.int g324), (.int g323), (.int x1), (.ref 19)])) rfl (tX7_burdenOf (d + 0) n x1 I J 19 sp rr w nw (Or.inr rfl) o2047 eo2047) (fun v h hq => ?_)
    obtain ⟨rfl, rfl⟩ := hq
    refine mm_T.seg (f' := (22, [some (.ref 18), some (.int x1)], [(.int x1), (.ref 18), (.int o2047), (.int g324), (.int g323), (.int x1), (.ref 19)])) (h' := (107, I, J, mm_rf 19 sp rr w nw)) 2 rfl ?_
    obtain ⟨g325, hg325⟩ : ∃ z, fX7_strokesOf x1 I = z := ⟨_, rfl⟩
    try rw [hg325] at e
    refine mm_T.call (t := 110) (as := [(.ref 18), (.int x1)]) (f' := (25, [some (.ref 18), some (.int x1)], [(.int o2047), (.int g324), (.int g323), (.int x1), (.ref 19)])) rfl (tX7_strokesOf (d + 0) x1 I J 19 sp rr w nw g325 hg325) (fun v h hq => ?_)
    obtain ⟨rfl, rfl⟩ := hq
    refine mm_T.seg (f' := (27, [some (.ref 18), some (.int x1)], [(.int x1), (.ref 18), (.int g325), (.int o2047), (.int g324), (.int g323), (.int x1), (.ref 19)])) (h' := (107, I, J, mm_rf 19 sp rr w nw)) 2 rfl ?_
    obtain ⟨g326, hg326⟩ : ∃ z, fX7_heatOf x1 I = z := ⟨_, rfl⟩
    try rw [hg326] at e
    refine mm_T.call (t := 107) (as := [(.ref 18), (.int x1)]) (f' := (30, [some (.ref 18), some (.int x1)], [(.int g325), (.int o2047), (.int g324), (.int g323), (.int x1), (.ref 19)])) rfl (tX7_heatOf (d + 0) x1 I J 19 sp rr w nw g326 hg326) (fun v h hq => ?_)
    obtain ⟨rfl, rfl⟩ := hq
    obtain ⟨o2048, eo2048, e⟩ := mm_bind e
    refine mm_T.call (t := 82) (as := [(.ref 19), (.int x1), (.int g323), (.int g324), (.int o2047), (.int g325), (.int g326)]) (f' := (33, [some (.ref 18), some (.int x1)], [])) rfl (tX5_warmth (d + 0) n x1 g323 g324 o2047 g325 g326 19 I J 19 sp rr w nw (Or.inr rfl) o2048 eo2048) (fun v h hq => ?_)
    obtain ⟨rfl, rfl⟩ := hq
    cases e
    exact mm_T.ret rfl ⟨rfl, rfl⟩
