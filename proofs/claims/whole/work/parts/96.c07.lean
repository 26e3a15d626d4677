set_option maxRecDepth 100000 in
set_option maxHeartbeats 4000000 in
theorem tlX6_strokesToMeet_L50 (d : Nat) (Q : Option Value → mm_H → Prop) : ∀ (n : Nat) (y3 : Int32) (y4 : Int32) (y5 : Int32) (y6 : Int32) (I : Nat → Nat → Int32) (J : Nat → Nat → Int64) (rv sp rr w nw : Nat), (rv = 3 ∨ rv = 19) → ∀ (out : (Int32 ⊕ (Unit))), fX6_strokesToMeet_L50 n y3 y4 y5 y6 I rv = some out → (∀ (r : Int32), out = .inl r → Q (some (.int r)) (107, I, J, mm_rf rv sp rr w nw)) → (∀ (y : Unit), out = .inr y → mm_T none (d + 3) 94 (132, [none, none, none, none, none, none, none], []) (107, I, J, mm_rf rv sp rr w nw) Q) → mm_T none (d + 3) 94 (50, [some (.ref 37), none, none, some (.int y3), some (.int y4), some (.int y5), some (.int y6)], []) (107, I, J, mm_rf rv sp rr w nw) Q := by
  intro n
  induction n with
  | zero =>
    intro y3 y4 y5 y6 I J rv sp rr w nw hrv out e kr ke
    rw [fX6_strokesToMeet_L50] at e; cases e
  | succ n ih =>
    intro y3 y4 y5 y6 I J rv sp rr w nw hrv out e kr ke
    rcases hrv with rfl | rfl
    · rw [fX6_strokesToMeet_L50] at e
      refine mm_T.seg (f' := (64, [some (.ref 37), none, none, some (.int y3), some (.int y4), some (.int y5), some (.int y6)], [(.int (I 3 1)), (.int (y3 + y6))])) (h' := (107, I, J, mm_rf 3 sp rr w nw)) 7 rfl ?_
      refine mm_T.br (c := (I 3 1) < (y3 + y6)) (a := ((132, [some (.ref 37), none, none, some (.int y3), some (.int y4), some (.int y5), some (.int y6)], []), (107, I, J, mm_rf 3 sp rr w nw))) (b := ((67, [some (.ref 37), none, none, some (.int y3), some (.int y4), some (.int y5), some (.int y6)], []), (107, I, J, mm_rf 3 sp rr w nw))) rfl (fun h2001 => ?_) (fun h2001 => ?_)
      · rw [if_pos h2001] at e
        cases e
        refine mm_T.mask [false, false, false, false, false, false, false] ?_
        exact ke _ rfl
      · rw [if_neg h2001] at e
        refine mm_T.seg (f' := (79, [some (.ref 37), none, none, some (.int y3), some (.int y4), some (.int y5), some (.int y6)], [(.int (((y4 <<< ((1 : Int32) &&& 31)) ||| (y4 >>> ((1 : Int32) &&& 31))) &&& y5))])) (h' := (107, I, J, mm_rf 3 sp rr w nw)) 9 rfl ?_
        refine mm_T.br (c := (((y4 <<< ((1 : Int32) &&& 31)) ||| (y4 >>> ((1 : Int32) &&& 31))) &&& y5) = 0) (a := ((85, [some (.ref 37), none, none, some (.int y3), some (.int y4), some (.int y5), some (.int y6)], []), (107, I, J, mm_rf 3 sp rr w nw))) (b := ((82, [some (.ref 37), none, none, some (.int y3), some (.int y4), some (.int y5), some (.int y6)], []), (107, I, J, mm_rf 3 sp rr w nw))) rfl (fun h2002 => ?_) (fun h2002 => ?_)
        · rw [if_pos h2002] at e
          refine mm_T.seg (f' := (99, [some (.ref 37), none, none, some (.int y3), some (.int y4), some (.int y5), some (.int y6)], [(.int (I 3 1)), (.int (y3 + y6))])) (h' := (107, I, J, mm_rf 3 sp rr w nw)) 7 rfl ?_
          refine mm_T.br (c := (y3 + y6) < (I 3 1)) (a := ((102, [some (.ref 37), none, none, some (.int y3), some (.int y4), some (.int y5), some (.int y6)], []), (107, I, J, mm_rf 3 sp rr w nw))) (b := ((126, [some (.ref 37), none, none, some (.int y3), some (.int y4), some (.int y5), some (.int y6)], []), (107, I, J, mm_rf 3 sp rr w nw))) rfl (fun h2003 => ?_) (fun h2003 => ?_)
          · rw [if_pos h2003] at e
            refine mm_T.seg (f' := (109, [some (.ref 37), none, none, some (.int y3), some (.int y4), some (.int y5), some (.int y6)], [(.int (y3 + y6)), (.int y4), (.ref 37)])) (h' := (107, I, J, mm_rf 3 sp rr w nw)) 5 rfl ?_
            obtain ⟨o2004, eo2004, e⟩ := mm_bind e
            refine mm_T.call (t := 84) (as := [(.ref 37), (.int y4), (.int (y3 + y6))]) (f' := (112, [some (.ref 37), none, none, some (.int y3), some (.int y4), some (.int y5), some (.int y6)], [])) rfl (tX6_spread (d + 0) n y4 (y3 + y6) I J 3 sp rr w nw (Or.inl rfl) o2004 eo2004) (fun v h hq => ?_)
            obtain ⟨rfl, rfl⟩ := hq
            refine mm_T.seg (f' := (121, [some (.ref 37), none, none, some (.int y3), some (.int o2004), some (.int y5), some (.int y6)], [(.int (y3 + y6)), (.int y5), (.ref 37)])) (h' := (107, I, J, mm_rf 3 sp rr w nw)) 6 rfl ?_
            obtain ⟨o2005, eo2005, e⟩ := mm_bind e
            refine mm_T.call (t := 84) (as := [(.ref 37), (.int y5), (.int (y3 + y6))]) (f' := (124, [some (.ref 37), none, none, some (.int y3), some (.int o2004), some (.int y5), some (.int y6)], [])) rfl (tX6_spread (d + 0) n y5 (y3 + y6) I J 3 sp rr w nw (Or.inl rfl) o2005 eo2005) (fun v h hq => ?_)
            obtain ⟨rfl, rfl⟩ := hq
            refine mm_T.seg (f' := (50, [some (.ref 37), none, none, some (.int y3), some (.int o2004), some (.int o2005), some (.int (y6 + 1))], [])) (h' := (107, I, J, mm_rf 3 sp rr w nw)) 3 rfl ?_
            refine mm_T.mask [true, false, false, true, true, true, true] ?_
            exact ih y3 o2004 o2005 (y6 + 1) I J 3 sp rr w nw (Or.inl rfl) out e kr ke
          · rw [if_neg h2003] at e
            refine mm_T.seg (f' := (50, [some (.ref 37), none, none, some (.int y3), some (.int y4), some (.int y5), some (.int (y6 + 1))], [])) (h' := (107, I, J, mm_rf 3 sp rr w nw)) 2 rfl ?_
            refine mm_T.mask [true, false, false, true, true, true, true] ?_
            exact ih y3 y4 y5 (y6 + 1) I J 3 sp rr w nw (Or.inl rfl) out e kr ke
        · rw [if_neg h2002] at e
          refine mm_T.seg (f' := (84, [some (.ref 37), none, none, some (.int y3), some (.int y4), some (.int y5), some (.int y6)], [(.int y6)])) (h' := (107, I, J, mm_rf 3 sp rr w nw)) 1 rfl ?_
          cases e
          exact mm_T.ret rfl (kr _ rfl)
    · rw [fX6_strokesToMeet_L50] at e
      refine mm_T.seg (f' := (64, [some (.ref 37), none, none, some (.int y3), some (.int y4), some (.int y5), some (.int y6)], [(.int (I 19 1)), (.int (y3 + y6))])) (h' := (107, I, J, mm_rf 19 sp rr w nw)) 7 rfl ?_
      refine mm_T.br (c := (I 19 1) < (y3 + y6)) (a := ((132, [some (.ref 37), none, none, some (.int y3), some (.int y4), some (.int y5), some (.int y6)], []), (107, I, J, mm_rf 19 sp rr w nw))) (b := ((67, [some (.ref 37), none, none, some (.int y3), some (.int y4), some (.int y5), some (.int y6)], []), (107, I, J, mm_rf 19 sp rr w nw))) rfl (fun h2001 => ?_) (fun h2001 => ?_)
      · rw [if_pos h2001] at e
        cases e
        refine mm_T.mask [false, false, false, false, false, false, false] ?_
        exact ke _ rfl
      · rw [if_neg h2001] at e
        refine mm_T.seg (f' := (79, [some (.ref 37), none, none, some (.int y3), some (.int y4), some (.int y5), some (.int y6)], [(.int (((y4 <<< ((1 : Int32) &&& 31)) ||| (y4 >>> ((1 : Int32) &&& 31))) &&& y5))])) (h' := (107, I, J, mm_rf 19 sp rr w nw)) 9 rfl ?_
        refine mm_T.br (c := (((y4 <<< ((1 : Int32) &&& 31)) ||| (y4 >>> ((1 : Int32) &&& 31))) &&& y5) = 0) (a := ((85, [some (.ref 37), none, none, some (.int y3), some (.int y4), some (.int y5), some (.int y6)], []), (107, I, J, mm_rf 19 sp rr w nw))) (b := ((82, [some (.ref 37), none, none, some (.int y3), some (.int y4), some (.int y5), some (.int y6)], []), (107, I, J, mm_rf 19 sp rr w nw))) rfl (fun h2002 => ?_) (fun h2002 => ?_)
        · rw [if_pos h2002] at e
          refine mm_T.seg (f' := (99, [some (.ref 37), none, none, some (.int y3), some (.int y4), some (.int y5), some (.int y6)], [(.int (I 19 1)), (.int (y3 + y6))])) (h' := (107, I, J, mm_rf 19 sp rr w nw)) 7 rfl ?_
          refine mm_T.br (c := (y3 + y6) < (I 19 1)) (a := ((102, [some (.ref 37), none, none, some (.int y3), some (.int y4), some (.int y5), some (.int y6)], []), (107, I, J, mm_rf 19 sp rr w nw))) (b := ((126, [some (.ref 37), none, none, some (.int y3), some (.int y4), some (.int y5), some (.int y6)], []), (107, I, J, mm_rf 19 sp rr w nw))) rfl (fun h2003 => ?_) (fun h2003 => ?_)
          · rw [if_pos h2003] at e
            refine mm_T.seg (f' := (109, [some (.ref 37), none, none, some (.int y3), some (.int y4), some (.int y5), some (.int y6)], [(.int (y3 + y6)), (.int y4), (.ref 37)])) (h' := (107, I, J, mm_rf 19 sp rr w nw)) 5 rfl ?_
            obtain ⟨o2004, eo2004, e⟩ := mm_bind e
            refine mm_T.call (t := 84) (as := [(.ref 37), (.int y4), (.int (y3 + y6))]) (f' := (112, [some (.ref 37), none, none, some (.int y3), some (.int y4), some (.int y5), some (.int y6)], [])) rfl (tX6_spread (d + 0) n y4 (y3 + y6) I J 19 sp rr w nw (Or.inr rfl) o2004 eo2004) (fun v h hq => ?_)
            obtain ⟨rfl, rfl⟩ := hq
            refine mm_T.seg (f' := (121, [some (.ref 37), none, none, some (.int y3), some (.int o2004), some (.int y5), some (.int y6)], [(.int (y3 + y6)), (.int y5), (.ref 37)])) (h' := (107, I, J, mm_rf 19 sp rr w nw)) 6 rfl ?_
            obtain ⟨o2005, eo2005, e⟩ := mm_bind e
            refine mm_T.call (t := 84) (as := [(.ref 37), (.int y5), (.int (y3 + y6))]) (f' := (124, [some (.ref 37), none, none, some (.int y3), some (.int o2004), some (.int y5), some (.int y6)], [])) rfl (tX6_spread (d + 0) n y5 (y3 + y6) I J 19 sp rr w nw (Or.inr rfl) o2005 eo2005) (fun v h hq => ?_)
            obtain ⟨rfl, rfl⟩ := hq
            refine mm_T.seg (f' := (50, [some (.ref 37), none, none, some (.int y3), some (.int o2004), some (.int o2005), some (.int (y6 + 1))], [])) (h' := (107, I, J, mm_rf 19 sp rr w nw)) 3 rfl ?_
            refine mm_T.mask [true, false, false, true, true, true, true] ?_
            exact ih y3 o2004 o2005 (y6 + 1) I J 19 sp rr w nw (Or.inr rfl) out e kr ke
          · rw [if_neg h2003] at e
            refine mm_T.seg (f' := (50, [some (.ref 37), none, none, some (.int y3), some (.int y4), some (.int y5), some (.int (y6 + 1))], [])) (h' := (107, I, J, mm_rf 19 sp rr w nw)) 2 rfl ?_
            refine mm_T.mask [true, false, false, true, true, true, true] ?_
            exact ih y3 y4 y5 (y6 + 1) I J 19 sp rr w nw (Or.inr rfl) out e kr ke
        · rw [if_neg h2002] at e
          refine mm_T.seg (f' := (84, [some (.ref 37), none, none, some (.int y3), some (.int y4), some (.int y5), some (.int y6)], [(.int y6)])) (h' := (107, I, J, mm_rf 19 sp rr w nw)) 1 rfl ?_
          cases e
          exact mm_T.ret rfl (kr _ rfl)
set_option maxRecDepth 100000 in
set_option maxHeartbeats 4000000 in
theorem tX6_strokesToMeet (d n : Nat) (x1 : Int32) (x2 : Int32) (I : Nat → Nat → Int32) (J : Nat → Nat → Int64) (rv sp rr w nw : Nat) (hrv : rv = 3 ∨ rv = 19) (out : Int32) (e : fX6_strokesToMeet n x1 x2 I rv = some out) : mm_T none (d + 3) 94 (mm_ent 94 [(.ref 37), (.int x1), (.int x2)]) (107, I, J, mm_rf rv sp rr w nw) (fun v h => v = some (.int out) ∧ h = (107, I, J, mm_rf rv sp rr w nw)) := by
  rcases hrv with rfl | rfl
  · unfold fX6_strokesToMeet at e
    refine mm_T.seg (f' := (5, [some (.ref 37), some (.int x1), some (.int x2), none, none, none, none], [(.int x1), (.ref 18)])) (h' := (107, I, J, mm_rf 3 sp rr w nw)) 3 rfl ?_
    refine mm_T.call (t := 106) (as := [(.ref 18), (.int x1)]) (f' := (8, [some (.ref 37), some (.int x1), some (.int x2), none, none, none, none], [])) rfl (tX7_rowOf (d + 0) x1 I J 3 sp rr w nw _ rfl) (fun v h hq => ?_)
    obtain ⟨rfl, rfl⟩ := hq
    refine mm_T.seg (f' := (15, [some (.ref 37), some (.int x1), some (.int x2), some (.int (fX7_rowOf x1 I)), none, none, none], [(.int x2), (.ref 18), (.int (fX7_rowOf x1 I))])) (h' := (107, I, J, mm_rf 3 sp rr w nw)) 5 rfl ?_
    refine mm_T.call (t := 106) (as := [(.ref 18), (.int x2)]) (f' := (18, [some (.ref 37), some (.int x1), some (.int x2), some (.int (fX7_rowOf x1 I)), none, none, none], [(.int (fX7_rowOf x1 I))])) rfl (tX7_rowOf (d + 0) x2 I J 3 sp rr w nw _ rfl) (fun v h hq => ?_)
    obtain ⟨rfl, rfl⟩ := hq
    refine mm_T.br (c := (fX7_rowOf x1 I) = (fX7_rowOf x2 I)) (a := ((23, [some (.ref 37), some (.int x1), some (.int x2), some (.int (fX7_rowOf x1 I)), none, none, none], []), (107, I, J, mm_rf 3 sp rr w nw))) (b := ((21, [some (.ref 37), some (.int x1), some (.int x2), some (.int (fX7_rowOf x1 I)), none, none, none], []), (107, I, J, mm_rf 3 sp rr w nw))) rfl (fun h1995 => ?_) (fun h1995 => ?_)
    · rw [if_pos h1995] at e
      refine mm_T.seg (f' := (29, [some (.ref 37), some (.int x1), some (.int x2), some (.int (fX7_rowOf x1 I)), none, none, none], [(.int x1), (.ref 18), (.int 1)])) (h' := (107, I, J, mm_rf 3 sp rr w nw)) 4 rfl ?_
      refine mm_T.call (t := 105) (as := [(.ref 18), (.int x1)]) (f' := (32, [some (.ref 37), some (.int x1), some (.int x2), some (.int (fX7_rowOf x1 I)), none, none, none], [(.int 1)])) rfl (tX7_columnOf (d + 0) x1 I J 3 sp rr w nw _ rfl) (fun v h hq => ?_)
      obtain ⟨rfl, rfl⟩ := hq
      refine mm_T.seg (f' := (41, [some (.ref 37), some (.int x1), some (.int x2), some (.int (fX7_rowOf x1 I)), some (.int ((1 : Int32) <<< ((fX7_columnOf x1 I) &&& 31))), none, none], [(.int x2), (.ref 18), (.int 1)])) (h' := (107, I, J, mm_rf 3 sp rr w nw)) 6 rfl ?_
      refine mm_T.call (t := 105) (as := [(.ref 18), (.int x2)]) (f' := (44, [some (.ref 37), some (.int x1), some (.int x2), some (.int (fX7_rowOf x1 I)), some (.int ((1 : Int32) <<< ((fX7_columnOf x1 I) &&& 31))), none, none], [(.int 1)])) rfl (tX7_columnOf (d + 0) x2 I J 3 sp rr w nw _ rfl) (fun v h hq => ?_)
      obtain ⟨rfl, rfl⟩ := hq
      refine mm_T.seg (f' := (50, [some (.ref 37), some (.int x1), some (.int x2), some (.int (fX7_rowOf x1 I)), some (.int ((1 : Int32) <<< ((fX7_columnOf x1 I) &&& 31))), some (.int ((1 : Int32) <<< ((fX7_columnOf x2 I) &&& 31))), some (.int 0)], [])) (h' := (107, I, J, mm_rf 3 sp rr w nw)) 4 rfl ?_
      refine mm_T.mask [true, false, false, true, true, true, true] ?_
      obtain ⟨o2006, eo2006, e⟩ := mm_bind e
      rcases o2006 with va2007 | vb2007
      · cases e
        refine tlX6_strokesToMeet_L50 d _ n (fX7_rowOf x1 I) ((1 : Int32) <<< ((fX7_columnOf x1 I) &&& 31)) ((1 : Int32) <<< ((fX7_columnOf x2 I) &&& 31)) 0 I J 3 sp rr w nw (Or.inl rfl) _ eo2006 (fun z hz => ?_) (fun z hz => ?_)
        · cases hz; exact ⟨rfl, rfl⟩
        · cases hz
      · refine tlX6_strokesToMeet_L50 d _ n (fX7_rowOf x1 I) ((1 : Int32) <<< ((fX7_columnOf x1 I) &&& 31)) ((1 : Int32) <<< ((fX7_columnOf x2 I) &&& 31)) 0 I J 3 sp rr w nw (Or.inl rfl) (.inr vb2007) eo2006 (fun z hz => ?_) (fun z hz => ?_)
        · cases hz
        · cases hz
          refine mm_T.seg (f' := (133, [none, none, none, none, none, none, none], [(.int (-1))])) (h' := (107, I, J, mm_rf 3 sp rr w nw)) 1 rfl ?_
          cases e
          exact mm_T.ret rfl ⟨rfl, rfl⟩
    · rw [if_neg h1995] at e
      refine mm_T.seg (f' := (22, [some (.ref 37), some (.int x1), some (.int x2), some (.int (fX7_rowOf x1 I)), none, none, none], [(.int (-1))])) (h' := (107, I, J, mm_rf 3 sp rr w nw)) 1 rfl ?_
      cases e
      exact mm_T.ret rfl ⟨rfl, rfl⟩
  · unfold fX6_strokesToMeet at e
    refine mm_T.seg (f' := (5, [some (.ref 37), some (.int x1), some (.int x2), none, none, none, none], [(.int x1), (.ref 18)])) (h' := (107, I, J, mm_rf 19 sp rr w nw)) 3 rfl ?_
    refine mm_T.call (t := 106) (as := [(.ref 18), (.int x1)]) (f' := (8, [some (.ref 37), some (.int x1), some (.int x2), none, none, none, none], [])) rfl (tX7_rowOf (d + 0) x1 I J 19 sp rr w nw _ rfl) (fun v h hq => ?_)
    obtain ⟨rfl, rfl⟩ := hq
    refine mm_T.seg (f' := (15, [some (.ref 37), some (.int x1), some (.int x2), some (.int (fX7_rowOf x1 I)), none, none, none], [(.int x2), (.ref 18), (.int (fX7_rowOf x1 I))])) (h' := (107, I, J, mm_rf 19 sp rr w nw)) 5 rfl ?_
    refine mm_T.call (t := 106) (as := [(.ref 18), (.int x2)]) (f' := (18, [some (.ref 37), some (.int x1), some (.int x2), some (.int (fX7_rowOf x1 I)), none, none, none], [(.int (fX7_rowOf x1 I))])) rfl (tX7_rowOf (d + 0) x2 I J 19 sp rr w nw _ rfl) (fun v h hq => ?_)
    obtain ⟨rfl, rfl⟩ := hq
    refine mm_T.br (c := (fX7_rowOf x1 I) = (fX7_rowOf x2 I)) (a := ((23, [some (.ref 37), some (.int x1), some (.int x2), some (.int (fX7_rowOf x1 I)), none, none, none], []), (107, I, J, mm_rf 19 sp rr w nw))) (b := ((21, [some (.ref 37), some (.int x1), some (.int x2), some (.int (fX7_rowOf x1 I)), none, none, none], []), (107, I, J, mm_rf 19 sp rr w nw))) rfl (fun h1995 => ?_) (fun h1995 => ?_)
    · rw [if_pos h1995] at e
      refine mm_T.seg (f' := (29, [some (.ref 37), some (.int x1), some (.int x2), some (.int (fX7_rowOf x1 I)), none, none, none], [(.int x1), (.ref 18), (.int 1)])) (h' := (107, I, J, mm_rf 19 sp rr w nw)) 4 rfl ?_
      refine mm_T.call (t := 105) (as := [(.ref 18), (.int x1)]) (f' := (32, [some (.ref 37), some (.int x1), some (.int x2), some (.int (fX7_rowOf x1 I)), none, none, none], [(.int 1)])) rfl (tX7_columnOf (d + 0) x1 I J 19 sp rr w nw _ rfl) (fun v h hq => ?_)
      obtain ⟨rfl, rfl⟩ := hq
      refine mm_T.seg (f' := (41, [some (.ref 37), some (.int x1), some (.int x2), some (.int (fX7_rowOf x1 I)), some (.int ((1 : Int32) <<< ((fX7_columnOf x1 I) &&& 31))), none, none], [(.int x2), (.ref 18), (.int 1)])) (h' := (107, I, J, mm_rf 19 sp rr w nw)) 6 rfl ?_
      refine mm_T.call (t := 105) (as := [(.ref 18), (.int x2)]) (f' := (44, [some (.ref 37), some (.int x1), some (.int x2), some (.int (fX7_rowOf x1 I)), some (.int ((1 : Int32) <<< ((fX7_columnOf x1 I) &&& 31))), none, none], [(.int 1)])) rfl (tX7_columnOf (d + 0) x2 I J 19 sp rr w nw _ rfl) (fun v h hq => ?_)
      obtain ⟨rfl, rfl⟩ := hq
      refine mm_T.seg (f' := (50, [some (.ref 37), some (.int x1), some (.int x2), some (.int (fX7_rowOf x1 I)), some (.int ((1 : Int32) <<< ((fX7_columnOf x1 I) &&& 31))), some (.int ((1 : Int32) <<< ((fX7_columnOf x2 I) &&& 31))), some (.int 0)], [])) (h' := (107, I, J, mm_rf 19 sp rr w nw)) 4 rfl ?_
      refine mm_T.mask [true, false, false, true, true, true, true] ?_
      obtain ⟨o2006, eo2006, e⟩ := mm_bind e
      rcases o2006 with va2007 | vb2007
      · cases e
        refine tlX6_strokesToMeet_L50 d _ n (fX7_rowOf x1 I) ((1 : Int32) <<< ((fX7_columnOf x1 I) &&& 31)) ((1 : Int32) <<< ((fX7_columnOf x2 I) &&& 31)) 0 I J 19 sp rr w nw (Or.inr rfl) _ eo2006 (fun z hz => ?_) (fun z hz => ?_)
        · cases hz; exact ⟨rfl, rfl⟩
        · cases hz
      · refine tlX6_strokesToMeet_L50 d _ n (fX7_rowOf x1 I) ((1 : Int32) <<< ((fX7_columnOf x1 I) &&& 31)) ((1 : Int32) <<< ((fX7_columnOf x2 I) &&& 31)) 0 I J 19 sp rr w nw (Or.inr rfl) (.inr vb2007) eo2006 (fun z hz => ?_) (fun z hz => ?_)
        · cases hz
        · cases hz
          refine mm_T.seg (f' := (133, [none, none, none, none, none, none, none], [(.int (-1))])) (h' := (107, I, J, mm_rf 19 sp rr w nw)) 1 rfl ?_
          cases e
          exact mm_T.ret rfl ⟨rfl, rfl⟩
    · rw [if_neg h1995] at e
      refine mm_T.seg (f' := (22, [some (.ref 37), some (.int x1), some (.int x2), some (.int (fX7_rowOf x1 I)), none, none, none], [(.int (-1))])) (h' := (107, I, J, mm_rf 19 sp rr w nw)) 1 rfl ?_
      cases e
      exact mm_T.ret rfl ⟨rfl, rfl⟩
set_option maxRecDepth 100000 in
set_option maxHeartbeats 4000000 in
theorem tX7_strokesLeft (d : Nat) (x1 : Int32) (I : Nat → Nat → Int32) (J : Nat → Nat → Int64) (rv sp rr w nw : Nat) (hrv : rv = 3 ∨ rv = 19) (out : Int32) (e : fX7_strokesLeft x1 I rv = out) : mm_T none (d + 3) 111 (mm_ent 111 [(.ref 18), (.int x1)]) (107, I, J, mm_rf rv sp rr w nw) (fun v h => v = some (.int out) ∧ h = (107, I, J, mm_rf rv sp rr w nw)) := by
  rcases hrv with rfl | rfl
  · unfold fX7_strokesLeft at e
    refine mm_T.seg (f' := (9, [some (.ref 18), some (.int x1)], [(.int x1), (.ref 18), (.int (I 3 1))])) (h' := (107, I, J, mm_rf 3 sp rr w nw)) 5 rfl ?_
    refine mm_T.call (t := 106) (as := [(.ref 18), (.int x1)]) (f' := (12, [some (.ref 18), some (.int x1)], [(.int (I 3 1))])) rfl (tX7_rowOf (d + 0) x1 I J 3 sp rr w nw _ rfl) (fun v h hq => ?_)
    obtain ⟨rfl, rfl⟩ := hq
    refine mm_T.seg (f' := (13, [some (.ref 18), some (.int x1)], [(.int ((I 3 1) - (fX7_rowOf x1 I)))])) (h' := (107, I, J, mm_rf 3 sp rr w nw)) 1 rfl ?_
    cases e
    exact mm_T.ret rfl ⟨rfl, rfl⟩
  · unfold fX7_strokesLeft at e
    refine mm_T.seg (f' := (9, [some (.ref 18), some (.int x1)], [(.int x1), (.ref 18), (.int (I 19 1))])) (h' := (107, I, J, mm_rf 19 sp rr w nw)) 5 rfl ?_
    refine mm_T.call (t := 106) (as := [(.ref 18), (.int x1)]) (f' := (12, [some (.ref 18), some (.int x1)], [(.int (I 19 1))])) rfl (tX7_rowOf (d + 0) x1 I J 19 sp rr w nw _ rfl) (fun v h hq => ?_)
    obtain ⟨rfl, rfl⟩ := hq
    refine mm_T.seg (f' := (13, [some (.ref 18), some (.int x1)], [(.int ((I 19 1) - (fX7_rowOf x1 I)))])) (h' := (107, I, J, mm_rf 19 sp rr w nw)) 1 rfl ?_
    cases e
    exact mm_T.ret rfl ⟨rfl, rfl⟩
set_option maxRecDepth 100000 in
set_option maxHeartbeats 4000000 in
theorem tX6_flowTo (d : Nat) (x1 : Int32) (x2 : Int32) (x3 : Int32) (I : Nat → Nat → Int32) (J : Nat → Nat → Int64) (rv sp rr w nw : Nat) (hrv : rv = 3 ∨ rv = 19) (hnw : nw = 39 ∨ nw = 40) (out : (Nat → Nat → Int32)) (e : fX6_flowTo x1 x2 x3 I rv nw = out) : mm_T none (d + 2) 97 (mm_ent 97 [(.ref 37), (.int x1), (.int x2), (.int x3)]) (107, I, J, mm_rf rv sp rr w nw) (fun v h => v = none ∧ h = (107, out, J, mm_rf rv sp rr w nw)) := by
  rcases hrv, hnw with rfl | rfl, rfl | rfl
  · unfold fX6_flowTo at e
    refine mm_T.seg (f' := (9, [some (.ref 37), some (.int x1), some (.int x2), some (.int x3)], [(.int x2), (.int x1), (.ref 3)])) (h' := (107, I, J, mm_rf 3 sp rr w 39)) 5 rfl ?_
    refine mm_T.call (t := 69) (as := [(.ref 3), (.int x1), (.int x2)]) (f' := (12, [some (.ref 37), some (.int x1), some (.int x2), some (.int x3)], [])) rfl (tX5_ironAt (d + 0) x1 x2 3 I J 3 sp rr w 39 (Or.inl rfl) _ rfl) (fun v h hq => ?_)
    obtain ⟨rfl, rfl⟩ := hq
    refine mm_T.br (c := (fX5_ironAt x1 x2 3 I) = 0) (a := ((15, [some (.ref 37), some (.int x1), some (.int x2), some (.int x3)], []), (107, I, J, mm_rf 3 sp rr w 39))) (b := ((33, [some (.ref 37), some (.int x1), some (.int x2), some (.int x3)], []), (107, I, J, mm_rf 3 sp rr w 39))) rfl (fun h2011 => ?_) (fun h2011 => ?_)
    · rw [if_pos h2011] at e
      refine mm_T.seg (f' := (25, [some (.ref 37), some (.int x1), some (.int x2), some (.int x3)], [(.int x1), (.ref 39), (.int x1), (.ref 39)])) (h' := (107, I, J, mm_rf 3 sp rr w 39)) 6 rfl ?_
      refine mm_T.call (t := 204) (as := [(.ref 39), (.int x1)]) (f' := (28, [some (.ref 37), some (.int x1), some (.int x2), some (.int x3)], [(.int x1), (.ref 39)])) rfl (t_pick _ 39 8 x1 I J (mm_rf 3 sp rr w 39) rfl rfl) (fun v h hq => ?_)
      obtain ⟨rfl, rfl⟩ := hq
      refine mm_T.seg (f' := (30, [some (.ref 37), some (.int x1), some (.int x2), some (.int x3)], [(.int ((mf_pick I 39 8 x1) + x3)), (.int x1), (.ref 39)])) (h' := (107, I, J, mm_rf 3 sp rr w 39)) 2 rfl ?_
      refine mm_T.call (t := 205) (as := [(.ref 39), (.int x1), (.int ((mf_pick I 39 8 x1) + x3))]) (f' := (33, [some (.ref 37), some (.int x1), some (.int x2), some (.int x3)], [])) rfl (t_put _ 39 8 x1 ((mf_pick I 39 8 x1) + x3) I J (mm_rf 3 sp rr w 39) rfl rfl) (fun v h hq => ?_)
      obtain ⟨rfl, rfl⟩ := hq
      cases e
      exact mm_T.ret rfl ⟨rfl, rfl⟩
    · rw [if_neg h2011] at e
      cases e
      exact mm_T.ret rfl ⟨rfl, rfl⟩
  · unfold fX6_flowTo at e
    refine mm_T.seg (f' := (9, [some (.ref 37), some (.int x1), some (.int x2), some (.int x3)], [(.int x2), (.int x1), (.ref 3)])) (h' := (107, I, J, mm_rf 3 sp rr w 40)) 5 rfl ?_
    refine mm_T.call (t := 69) (as := [(.ref 3), (.int x1), (.int x2)]) (f' := (12, [some (.ref 37), some (.int x1), some (.int x2), some (.int x3)], [])) rfl (tX5_ironAt (d + 0) x1 x2 3 I J 3 sp rr w 40 (Or.inl rfl) _ rfl) (fun v h hq => ?_)
    obtain ⟨rfl, rfl⟩ := hq
    refine mm_T.br (c := (fX5_ironAt x1 x2 3 I) = 0) (a := ((15, [some (.ref 37), some (.int x1), some (.int x2), some (.int x3)], []), (107, I, J, mm_rf 3 sp rr w 40))) (b := ((33, [some (.ref 37), some (.int x1), some (.int x2), some (.int x3)], []), (107, I, J, mm_rf 3 sp rr w 40))) rfl (fun h2011 => ?_) (fun h2011 => ?_)
    · rw [if_pos h2011] at e
      refine mm_T.seg (f' := (25, [some (.ref 37), some (.int x1), some (.int x2), some (.int x3)], [(.int x1), (.ref 40), (.int x1), (.ref 40)])) (h' := (107, I, J, mm_rf 3 sp rr w 40)) 6 rfl ?_
      refine mm_T.call (t := 204) (as := [(.ref 40), (.int x1)]) (f' := (28, [some (.ref 37), some (.int x1), some (.int x2), some (.int x3)], [(.int x1), (.ref 40)])) rfl (t_pick _ 40 8 x1 I J (mm_rf 3 sp rr w 40) rfl rfl) (fun v h hq => ?_)
      obtain ⟨rfl, rfl⟩ := hq
      refine mm_T.seg (f' := (30, [some (.ref 37), some (.int x1), some (.int x2), some (.int x3)], [(.int ((mf_pick I 40 8 x1) + x3)), (.int x1), (.ref 40)])) (h' := (107, I, J, mm_rf 3 sp rr w 40)) 2 rfl ?_
      refine mm_T.call (t := 205) (as := [(.ref 40), (.int x1), (.int ((mf_pick I 40 8 x1) + x3))]) (f' := (33, [some (.ref 37), some (.int x1), some (.int x2), some (.int x3)], [])) rfl (t_put _ 40 8 x1 ((mf_pick I 40 8 x1) + x3) I J (mm_rf 3 sp rr w 40) rfl rfl) (fun v h hq => ?_)
      obtain ⟨rfl, rfl⟩ := hq
      cases e
      exact mm_T.ret rfl ⟨rfl, rfl⟩
    · rw [if_neg h2011] at e
      cases e
      exact mm_T.ret rfl ⟨rfl, rfl⟩
  · unfold fX6_flowTo at e
    refine mm_T.seg (f' := (9, [some (.ref 37), some (.int x1), some (.int x2), some (.int x3)], [(.int x2), (.int x1), (.ref 19)])) (h' := (107, I, J, mm_rf 19 sp rr w 39)) 5 rfl ?_
    refine mm_T.call (t := 69) (as := [(.ref 19), (.int x1), (.int x2)]) (f' := (12, [some (.ref 37), some (.int x1), some (.int x2), some (.int x3)], [])) rfl (tX5_ironAt (d + 0) x1 x2 19 I J 19 sp rr w 39 (Or.inr rfl) _ rfl) (fun v h hq => ?_)
    obtain ⟨rfl, rfl⟩ := hq
    refine mm_T.br (c := (fX5_ironAt x1 x2 19 I) = 0) (a := ((15, [some (.ref 37), some (.int x1), some (.int x2), some (.int x3)], []), (107, I, J, mm_rf 19 sp rr w 39))) (b := ((33, [some (.ref 37), some (.int x1), some (.int x2), some (.int x3)], []), (107, I, J, mm_rf 19 sp rr w 39))) rfl (fun h2011 => ?_) (fun h2011 => ?_)
    · rw [if_pos h2011] at e
      refine mm_T.seg (f' := (25, [some (.ref 37), some (.int x1), some (.int x2), some (.int x3)], [(.int x1), (.ref 39), (.int x1), (.ref 39)])) (h' := (107, I, J, mm_rf 19 sp rr w 39)) 6 rfl ?_
      refine mm_T.call (t := 204) (as := [(.ref 39), (.int x1)]) (f' := (28, [some (.ref 37), some (.int x1), some (.int x2), some (.int x3)], [(.int x1), (.ref 39)])) rfl (t_pick _ 39 8 x1 I J (mm_rf 19 sp rr w 39) rfl rfl) (fun v h hq => ?_)
      obtain ⟨rfl, rfl⟩ := hq
      refine mm_T.seg (f' := (30, [some (.ref 37), some (.int x1), some (.int x2), some (.int x3)], [(.int ((mf_pick I 39 8 x1) + x3)), (.int x1), (.ref 39)])) (h' := (107, I, J, mm_rf 19 sp rr w 39)) 2 rfl ?_
      refine mm_T.call (t := 205) (as := [(.ref 39), (.int x1), (.int ((mf_pick I 39 8 x1) + x3))]) (f' := (33, [some (.ref 37), some (.int x1), some (.int x2), some (.int x3)], [])) rfl (t_put _ 39 8 x1 ((mf_pick I 39 8 x1) + x3) I J (mm_rf 19 sp rr w 39) rfl rfl) (fun v h hq => ?_)
      obtain ⟨rfl, rfl⟩ := hq
      cases e
      exact mm_T.ret rfl ⟨rfl, rfl⟩
    · rw [if_neg h2011] at e
      cases e
      exact mm_T.ret rfl ⟨rfl, rfl⟩
  · unfold fX6_flowTo at e
    refine mm_T.seg (f' := (9, [some (.ref 37), some (.int x1), some (.int x2), some (.int x3)], [(.int x2), (.int x1), (.ref 19)])) (h' := (107, I, J, mm_rf 19 sp rr w 40)) 5 rfl ?_
    refine mm_T.call (t := 69) (as := [(.ref 19), (.int x1), (.int x2)]) (f' := (12, [some (.ref 37), some (.int x1), some (.int x2), some (.int x3)], [])) rfl (tX5_ironAt (d + 0) x1 x2 19 I J 19 sp rr w 40 (Or.inr rfl) _ rfl) (fun v h hq => ?_)
    obtain ⟨rfl, rfl⟩ := hq
    refine mm_T.br (c := (fX5_ironAt x1 x2 19 I) = 0) (a := ((15, [some (.ref 37), some (.int x1), some (.int x2), some (.int x3)], []), (107, I, J, mm_rf 19 sp rr w 40))) (b := ((33, [some (.ref 37), some (.int x1), some (.int x2), some (.int x3)], []), (107, I, J, mm_rf 19 sp rr w 40))) rfl (fun h2011 => ?_) (fun h2011 => ?_)
    · rw [if_pos h2011] at e
      refine mm_T.seg (f' := (25, [some (.ref 37), some (.int x1), some (.int x2), some (.int x3)], [(.int x1), (.ref 40), (.int x1), (.ref 40)])) (h' := (107, I, J, mm_rf 19 sp rr w 40)) 6 rfl ?_
      refine mm_T.call (t := 204) (as := [(.ref 40), (.int x1)]) (f' := (28, [some (.ref 37), some (.int x1), some (.int x2), some (.int x3)], [(.int x1), (.ref 40)])) rfl (t_pick _ 40 8 x1 I J (mm_rf 19 sp rr w 40) rfl rfl) (fun v h hq => ?_)
      obtain ⟨rfl, rfl⟩ := hq
      refine mm_T.seg (f' := (30, [some (.ref 37), some (.int x1), some (.int x2), some (.int x3)], [(.int ((mf_pick I 40 8 x1) + x3)), (.int x1), (.ref 40)])) (h' := (107, I, J, mm_rf 19 sp rr w 40)) 2 rfl ?_
      refine mm_T.call (t := 205) (as := [(.ref 40), (.int x1), (.int ((mf_pick I 40 8 x1) + x3))]) (f' := (33, [some (.ref 37), some (.int x1), some (.int x2), some (.int x3)], [])) rfl (t_put _ 40 8 x1 ((mf_pick I 40 8 x1) + x3) I J (mm_rf 19 sp rr w 40) rfl rfl) (fun v h hq => ?_)
      obtain ⟨rfl, rfl⟩ := hq
      cases e
      exact mm_T.ret rfl ⟨rfl, rfl⟩
    · rw [if_neg h2011] at e
      cases e
      exact mm_T.ret rfl ⟨rfl, rfl⟩
set_option maxRecDepth 100000 in
set_option maxHeartbeats 4000000 in
theorem tlX6_flowOn_L18 (d : Nat) (Q : Option Value → mm_H → Prop) : ∀ (n : Nat) (y1 : Int32) (y3 : Int32) (I : Nat → Nat → Int32) (J : Nat → Nat → Int64) (rv sp rr w nw : Nat), (rv = 3 ∨ rv = 19) → (w = 39 ∨ w = 40) → (nw = 39 ∨ nw = 40) → ∀ (out : (Nat → Nat → Int32)), fX6_flowOn_L18 n y1 y3 I rv w nw = some out → mm_T none (d + 3) 96 (89, [some (.ref 37), none, none, none, none], []) (107, out, J, mm_rf rv sp rr w nw) Q → mm_T none (d + 3) 96 (18, [some (.ref 37), some (.int y1), some (.ref rv), some (.int y3), none], []) (107, I, J, mm_rf rv sp rr w nw) Q := by
  intro n
  induction n with
  | zero =>
    intro y1 y3 I J rv sp rr w nw hrv hw hnw out e k
    rw [fX6_flowOn_L18] at e; cases e
  | succ n ih =>
    intro y1 y3 I J rv sp rr w nw hrv hw hnw out e k
    rcases hrv, hw, hnw with rfl | rfl, rfl | rfl, rfl | rfl
    · rw [fX6_flowOn_L18] at e
      refine mm_T.seg (f' := (23, [some (.ref 37), some (.int y1), some (.ref 3), some (.int y3), none], [(.int (I 3 0)), (.int y3)])) (h' := (107, I, J, mm_rf 3 sp rr 39 39)) 3 rfl ?_
      refine mm_T.br (c := y3 < (I 3 0)) (a := ((26, [some (.ref 37), some (.int y1), some (.ref 3), some (.int y3), none], []), (107, I, J, mm_rf 3 sp rr 39 39))) (b := ((89, [some (.ref 37), some (.int y1), some (.ref 3), some (.int y3), none], []), (107, I, J, mm_rf 3 sp rr 39 39))) rfl (fun h2012 => ?_) (fun h2012 => ?_)
      · rw [if_pos h2012] at e
        refine mm_T.seg (f' := (31, [some (.ref 37), some (.int y1), some (.ref 3), some (.int y3), none], [(.int y3), (.ref 39)])) (h' := (107, I, J, mm_rf 3 sp rr 39 39)) 3 rfl ?_
        refine mm_T.call (t := 204) (as := [(.ref 39), (.int y3)]) (f' := (34, [some (.ref 37), some (.int y1), some (.ref 3), some (.int y3), none], [])) rfl (t_pick _ 39 8 y3 I J (mm_rf 3 sp rr 39 39) rfl rfl) (fun v h hq => ?_)
        obtain ⟨rfl, rfl⟩ := hq
        refine mm_T.seg (f' := (42, [some (.ref 37), some (.int y1), some (.ref 3), some (.int y3), some (.int (mf_pick I 39 8 y3))], [(.int 1), (.int 0), (.int y1), (.int y3), (.ref 3), (.ref 37)])) (h' := (107, I, J, mm_rf 3 sp rr 39 39)) 7 rfl ?_
        refine mm_T.call (t := 81) (as := [(.ref 3), (.int y3), (.int y1), (.int 0), (.int 1)]) (f' := (45, [some (.ref 37), some (.int y1), some (.ref 3), some (.int y3), some (.int (mf_pick I 39 8 y3))], [(.ref 37)])) rfl (tX5_leadsTo (d + 1) y3 y1 0 1 3 I J 3 sp rr 39 39 (Or.inl rfl) _ rfl) (fun v h hq => ?_)
        obtain ⟨rfl, rfl⟩ := hq
        refine mm_T.seg (f' := (58, [some (.ref 37), some (.int y1), some (.ref 3), some (.int y3), some (.int (mf_pick I 39 8 y3))], [(.int ((mf_pick I 39 8 y3) * (100 - (I 3 6)))), (.int (y1 + 1)), (.int (fX5_leadsTo y3 y1 0 1 3 I)), (.ref 37)])) (h' := (107, I, J, mm_rf 3 sp rr 39 39)) 9 rfl ?_
        refine mm_T.call (t := 97) (as := [(.ref 37), (.int (fX5_leadsTo y3 y1 0 1 3 I)), (.int (y1 + 1)), (.int ((mf_pick I 39 8 y3) * (100 - (I 3 6))))]) (f' := (61, [some (.ref 37), some (.int y1), some (.ref 3), some (.int y3), some (.int (mf_pick I 39 8 y3))], [])) rfl (tX6_flowTo (d + 0) (fX5_leadsTo y3 y1 0 1 3 I) (y1 + 1) ((mf_pick I 39 8 y3) * (100 - (I 3 6))) I J 3 sp rr 39 39 (Or.inl rfl) (Or.inl rfl) _ rfl) (fun v h hq => ?_)
        obtain ⟨rfl, rfl⟩ := hq
        refine mm_T.seg (f' := (67, [some (.ref 37), some (.int y1), some (.ref 3), some (.int y3), some (.int (mf_pick I 39 8 y3))], [(.int 2), (.int 0), (.int y1), (.int y3), (.ref 3), (.ref 37)])) (h' := (107, (fX6_flowTo (fX5_leadsTo y3 y1 0 1 3 I) (y1 + 1) ((mf_pick I 39 8 y3) * (100 - (I 3 6))) I 3 39), J, mm_rf 3 sp rr 39 39)) 6 rfl ?_
        refine mm_T.call (t := 81) (as := [(.ref 3), (.int y3), (.int y1), (.int 0), (.int 2)]) (f' := (70, [some (.ref 37), some (.int y1), some (.ref 3), some (.int y3), some (.int (mf_pick I 39 8 y3))], [(.ref 37)])) rfl (tX5_leadsTo (d + 1) y3 y1 0 2 3 (fX6_flowTo (fX5_leadsTo y3 y1 0 1 3 I) (y1 + 1) ((mf_pick I 39 8 y3) * (100 - (I 3 6))) I 3 39) J 3 sp rr 39 39 (Or.inl rfl) _ rfl) (fun v h hq => ?_)
        obtain ⟨rfl, rfl⟩ := hq
        refine mm_T.seg (f' := (80, [some (.ref 37), some (.int y1), some (.ref 3), some (.int y3), some (.int (mf_pick I 39 8 y3))], [(.int ((mf_pick I 39 8 y3) * ((fX6_flowTo (fX5_leadsTo y3 y1 0 1 3 I) (y1 + 1) ((mf_pick I 39 8 y3) * (100 - (I 3 6))) I 3 39) 3 6))), (.int (y1 + 1)), (.int (fX5_leadsTo y3 y1 0 2 3 (fX6_flowTo (fX5_leadsTo y3 y1 0 1 3 I) (y1 + 1) ((mf_pick I 39 8 y3) * (100 - (I 3 6))) I 3 39))), (.ref 37)])) (h' := (107, (fX6_flowTo (fX5_leadsTo y3 y1 0 1 3 I) (y1 + 1) ((mf_pick I 39 8 y3) * (100 - (I 3 6))) I 3 39), J, mm_rf 3 sp rr 39 39)) 7 rfl ?_
        refine mm_T.call (t := 97) (as := [(.ref 37), (.int (fX5_leadsTo y3 y1 0 2 3 (fX6_flowTo (fX5_leadsTo y3 y1 0 1 3 I) (y1 + 1) ((mf_pick I 39 8 y3) * (100 - (I 3 6))) I 3 39))), (.int (y1 + 1)), (.int ((mf_pick I 39 8 y3) * ((fX6_flowTo (fX5_leadsTo y3 y1 0 1 3 I) (y1 + 1) ((mf_pick I 39 8 y3) * (100 - (I 3 6))) I 3 39) 3 6)))]) (f' := (83, [some (.ref 37), some (.int y1), some (.ref 3), some (.int y3), some (.int (mf_pick I 39 8 y3))], [])) rfl (tX6_flowTo (d + 0) (fX5_leadsTo y3 y1 0 2 3 (fX6_flowTo (fX5_leadsTo y3 y1 0 1 3 I) (y1 + 1) ((mf_pick I 39 8 y3) * (100 - (I 3 6))) I 3 39)) (y1 + 1) ((mf_pick I 39 8 y3) * ((fX6_flowTo (fX5_leadsTo y3 y1 0 1 3 I) (y1 + 1) ((mf_pick I 39 8 y3) * (100 - (I 3 6))) I 3 39) 3 6)) (fX6_flowTo (fX5_leadsTo y3 y1 0 1 3 I) (y1 + 1) ((mf_pick I 39 8 y3) * (100 - (I 3 6))) I 3 39) J 3 sp rr 39 39 (Or.inl rfl) (Or.inl rfl) _ rfl) (fun v h hq => ?_)
        obtain ⟨rfl, rfl⟩ := hq
        refine mm_T.seg (f' := (18, [some (.ref 37), some (.int y1), some (.ref 3), some (.int (y3 + 1)), some (.int (mf_pick I 39 8 y3))], [])) (h' := (107, (fX6_flowTo (fX5_leadsTo y3 y1 0 2 3 (fX6_flowTo (fX5_leadsTo y3 y1 0 1 3 I) (y1 + 1) ((mf_pick I 39 8 y3) * (100 - (I 3 6))) I 3 39)) (y1 + 1) ((mf_pick I 39 8 y3) * ((fX6_flowTo (fX5_leadsTo y3 y1 0 1 3 I) (y1 + 1) ((mf_pick I 39 8 y3) * (100 - (I 3 6))) I 3 39) 3 6)) (fX6_flowTo (fX5_leadsTo y3 y1 0 1 3 I) (y1 + 1) ((mf_pick I 39 8 y3) * (100 - (I 3 6))) I 3 39) 3 39), J, mm_rf 3 sp rr 39 39)) 2 rfl ?_
        refine mm_T.mask [true, true, true, true, false] ?_
        exact ih y1 (y3 + 1) (fX6_flowTo (fX5_leadsTo y3 y1 0 2 3 (fX6_flowTo (fX5_leadsTo y3 y1 0 1 3 I) (y1 + 1) ((mf_pick I 39 8 y3) * (100 - (I 3 6))) I 3 39)) (y1 + 1) ((mf_pick I 39 8 y3) * ((fX6_flowTo (fX5_leadsTo y3 y1 0 1 3 I) (y1 + 1) ((mf_pick I 39 8 y3) * (100 - (I 3 6))) I 3 39) 3 6)) (fX6_flowTo (fX5_leadsTo y3 y1 0 1 3 I) (y1 + 1) ((mf_pick I 39 8 y3) * (100 - (I 3 6))) I 3 39) 3 39) J 3 sp rr 39 39 (Or.inl rfl) (Or.inl rfl) (Or.inl rfl) out e k
      · rw [if_neg h2012] at e
        cases e
        refine mm_T.mask [true, false, false, false, false] ?_
        exact k
    · rw [fX6_flowOn_L18] at e
      refine mm_T.seg (f' := (23, [some (.ref 37), some (.int y1), some (.ref 3), some (.int y3), none], [(.int (I 3 0)), (.int y3)])) (h' := (107, I, J, mm_rf 3 sp rr 39 40)) 3 rfl ?_
      refine mm_T.br (c := y3 < (I 3 0)) (a := ((26, [some (.ref 37), some (.int y1), some (.ref 3), some (.int y3), none], []), (107, I, J, mm_rf 3 sp rr 39 40))) (b := ((89, [some (.ref 37), some (.int y1), some (.ref 3), some (.int y3), none], []), (107, I, J, mm_rf 3 sp rr 39 40))) rfl (fun h2012 => ?_) (fun h2012 => ?_)
      · rw [if_pos h2012] at e
        refine mm_T.seg (f' := (31, [some (.ref 37), some (.int y1), some (.ref 3), some (.int y3), none], [(.int y3), (.ref 39)])) (h' := (107, I, J, mm_rf 3 sp rr 39 40)) 3 rfl ?_
        refine mm_T.call (t := 204) (as := [(.ref 39), (.int y3)]) (f' := (34, [some (.ref 37), some (.int y1), some (.ref 3), some (.int y3), none], [])) rfl (t_pick _ 39 8 y3 I J (mm_rf 3 sp rr 39 40) rfl rfl) (fun v h hq => ?_)
        obtain ⟨rfl, rfl⟩ := hq
        refine mm_T.seg (f' := (42, [some (.ref 37), some (.int y1), some (.ref 3), some (.int y3), some (.int (mf_pick I 39 8 y3))], [(.int 1), (.int 0), (.int y1), (.int y3), (.ref 3), (.ref 37)])) (h' := (107, I, J, mm_rf 3 sp rr 39 40)) 7 rfl ?_
        refine mm_T.call (t := 81) (as := [(.ref 3), (.int y3), (.int y1), (.int 0), (.int 1)]) (f' := (45, [some (.ref 37), some (.int y1), some (.ref 3), some (.int y3), some (.int (mf_pick I 39 8 y3))], [(.ref 37)])) rfl (tX5_leadsTo (d + 1) y3 y1 0 1 3 I J 3 sp rr 39 40 (Or.inl rfl) _ rfl) (fun v h hq => ?_)
        obtain ⟨rfl, rfl⟩ := hq
        refine mm_T.seg (f' := (58, [some (.ref 37), some (.int y1), some (.ref 3), some (.int y3), some (.int (mf_pick I 39 8 y3))], [(.int ((mf_pick I 39 8 y3) * (100 - (I 3 6)))), (.int (y1 + 1)), (.int (fX5_leadsTo y3 y1 0 1 3 I)), (.ref 37)])) (h' := (107, I, J, mm_rf 3 sp rr 39 40)) 9 rfl ?_
        refine mm_T.call (t := 97) (as := [(.ref 37), (.int (fX5_leadsTo y3 y1 0 1 3 I)), (.int (y1 + 1)), (.int ((mf_pick I 39 8 y3) * (100 - (I 3 6))))]) (f' := (61, [some (.ref 37), some (.int y1), some (.ref 3), some (.int y3), some (.int (mf_pick I 39 8 y3))], [])) rfl (tX6_flowTo (d + 0) (fX5_leadsTo y3 y1 0 1 3 I) (y1 + 1) ((mf_pick I 39 8 y3) * (100 - (I 3 6))) I J 3 sp rr 39 40 (Or.inl rfl) (Or.inr rfl) _ rfl) (fun v h hq => ?_)
        obtain ⟨rfl, rfl⟩ := hq
        refine mm_T.seg (f' := (67, [some (.ref 37), some (.int y1), some (.ref 3), some (.int y3), some (.int (mf_pick I 39 8 y3))], [(.int 2), (.int 0), (.int y1), (.int y3), (.ref 3), (.ref 37)])) (h' := (107, (fX6_flowTo (fX5_leadsTo y3 y1 0 1 3 I) (y1 + 1) ((mf_pick I 39 8 y3) * (100 - (I 3 6))) I 3 40), J, mm_rf 3 sp rr 39 40)) 6 rfl ?_
        refine mm_T.call (t := 81) (as := [(.ref 3), (.int y3), (.int y1), (.int 0), (.int 2)]) (f' := (70, [some (.ref 37), some (.int y1), some (.ref 3), some (.int y3), some (.int (mf_pick I 39 8 y3))], [(.ref 37)])) rfl (tX5_leadsTo (d + 1) y3 y1 0 2 3 (fX6_flowTo (fX5_leadsTo y3 y1 0 1 3 I) (y1 + 1) ((mf_pick I 39 8 y3) * (100 - (I 3 6))) I 3 40) J 3 sp rr 39 40 (Or.inl rfl) _ rfl) (fun v h hq => ?_)
        obtain ⟨rfl, rfl⟩ := hq
        refine mm_T.seg (f' := (80, [some (.ref 37), some (.int y1), some (.ref 3), some (.int y3), some (.int (mf_pick I 39 8 y3))], [(.int ((mf_pick I 39 8 y3) * ((fX6_flowTo (fX5_leadsTo y3 y1 0 1 3 I) (y1 + 1) ((mf_pick I 39 8 y3) * (100 - (I 3 6))) I 3 40) 3 6))), (.int (y1 + 1)), (.int (fX5_leadsTo y3 y1 0 2 3 (fX6_flowTo (fX5_leadsTo y3 y1 0 1 3 I) (y1 + 1) ((mf_pick I 39 8 y3) * (100 - (I 3 6))) I 3 40))), (.ref 37)])) (h' := (107, (fX6_flowTo (fX5_leadsTo y3 y1 0 1 3 I) (y1 + 1) ((mf_pick I 39 8 y3) * (100 - (I 3 6))) I 3 40), J, mm_rf 3 sp rr 39 40)) 7 rfl ?_
        refine mm_T.call (t := 97) (as := [(.ref 37), (.int (fX5_leadsTo y3 y1 0 2 3 (fX6_flowTo (fX5_leadsTo y3 y1 0 1 3 I) (y1 + 1) ((mf_pick I 39 8 y3) * (100 - (I 3 6))) I 3 40))), (.int (y1 + 1)), (.int ((mf_pick I 39 8 y3) * ((fX6_flowTo (fX5_leadsTo y3 y1 0 1 3 I) (y1 + 1) ((mf_pick I 39 8 y3) * (100 - (I 3 6))) I 3 40) 3 6)))]) (f' := (83, [some (.ref 37), some (.int y1), some (.ref 3), some (.int y3), some (.int (mf_pick I 39 8 y3))], [])) rfl (tX6_flowTo (d + 0) (fX5_leadsTo y3 y1 0 2 3 (fX6_flowTo (fX5_leadsTo y3 y1 0 1 3 I) (y1 + 1) ((mf_pick I 39 8 y3) * (100 - (I 3 6))) I 3 40)) (y1 + 1) ((mf_pick I 39 8 y3) * ((fX6_flowTo (fX5_leadsTo y3 y1 0 1 3 I) (y1 + 1) ((mf_pick I 39 8 y3) * (100 - (I 3 6))) I 3 40) 3 6)) (fX6_flowTo (fX5_leadsTo y3 y1 0 1 3 I) (y1 + 1) ((mf_pick I 39 8 y3) * (100 - (I 3 6))) I 3 40) J 3 sp rr 39 40 (Or.inl rfl) (Or.inr rfl) _ rfl) (fun v h hq => ?_)
        obtain ⟨rfl, rfl⟩ := hq
        refine mm_T.seg (f' := (18, [some (.ref 37), some (.int y1), some (.ref 3), some (.int (y3 + 1)), some (.int (mf_pick I 39 8 y3))], [])) (h' := (107, (fX6_flowTo (fX5_leadsTo y3 y1 0 2 3 (fX6_flowTo (fX5_leadsTo y3 y1 0 1 3 I) (y1 + 1) ((mf_pick I 39 8 y3) * (100 - (I 3 6))) I 3 40)) (y1 + 1) ((mf_pick I 39 8 y3) * ((fX6_flowTo (fX5_leadsTo y3 y1 0 1 3 I) (y1 + 1) ((mf_pick I 39 8 y3) * (100 - (I 3 6))) I 3 40) 3 6)) (fX6_flowTo (fX5_leadsTo y3 y1 0 1 3 I) (y1 + 1) ((mf_pick I 39 8 y3) * (100 - (I 3 6))) I 3 40) 3 40), J, mm_rf 3 sp rr 39 40)) 2 rfl ?_
        refine mm_T.mask [true, true, true, true, false] ?_
        exact ih y1 (y3 + 1) (fX6_flowTo (fX5_leadsTo y3 y1 0 2 3 (fX6_flowTo (fX5_leadsTo y3 y1 0 1 3 I) (y1 + 1) ((mf_pick I 39 8 y3) * (100 - (I 3 6))) I 3 40)) (y1 + 1) ((mf_pick I 39 8 y3) * ((fX6_flowTo (fX5_leadsTo y3 y1 0 1 3 I) (y1 + 1) ((mf_pick I 39 8 y3) * (100 - (I 3 6))) I 3 40) 3 6)) (fX6_flowTo (fX5_leadsTo y3 y1 0 1 3 I) (y1 + 1) ((mf_pick I 39 8 y3) * (100 - (I 3 6))) I 3 40) 3 40) J 3 sp rr 39 40 (Or.inl rfl) (Or.inl rfl) (Or.inr rfl) out e k
      · rw [if_neg h2012] at e
        cases e
        refine mm_T.mask [true, false, false, false, false] ?_
        exact k
    · rw [fX6_flowOn_L18] at e
      refine mm_T.seg (f' := (23, [some (.ref 37), some (.int y1), some (.ref 3), some (.int y3), none], [(.int (I 3 0)), (.int y3)])) (h' := (107, I, J, mm_rf 3 sp rr 40 39)) 3 rfl ?_
      refine mm_T.br (c := y3 < (I 3 0)) (a := ((26, [some (.ref 37), some (.int y1), some (.ref 3), some (.int y3), none], []), (107, I, J, mm_rf 3 sp rr 40 39))) (b := ((89, [some (.ref 37), some (.int y1), some (.ref 3), some (.int y3), none], []), (107, I, J, mm_rf 3 sp rr 40 39))) rfl (fun h2012 => ?_) (fun h2012 => ?_)
      · rw [if_pos h2012] at e
        refine mm_T.seg (f' := (31, [some (.ref 37), some (.int y1), some (.ref 3), some (.int y3), none], [(.int y3), (.ref 40)])) (h' := (107, I, J, mm_rf 3 sp rr 40 39)) 3 rfl ?_
        refine mm_T.call (t := 204) (as := [(.ref 40), (.int y3)]) (f' := (34, [some (.ref 37), some (.int y1), some (.ref 3), some (.int y3), none], [])) rfl (t_pick _ 40 8 y3 I J (mm_rf 3 sp rr 40 39) rfl rfl) (fun v h hq => ?_)
        obtain ⟨rfl, rfl⟩ := hq
        refine mm_T.seg (f' := (42, [some (.ref 37), some (.int y1), some (.ref 3), some (.int y3), some (.int (mf_pick I 40 8 y3))], [(.int 1), (.int 0), (.int y1), (.int y3), (.ref 3), (.ref 37)])) (h' := (107, I, J, mm_rf 3 sp rr 40 39)) 7 rfl ?_
        refine mm_T.call (t := 81) (as := [(.ref 3), (.int y3), (.int y1), (.int 0), (.int 1)]) (f' := (45, [some (.ref 37), some (.int y1), some (.ref 3), some (.int y3), some (.int (mf_pick I 40 8 y3))], [(.ref 37)])) rfl (tX5_leadsTo (d + 1) y3 y1 0 1 3 I J 3 sp rr 40 39 (Or.inl rfl) _ rfl) (fun v h hq => ?_)
        obtain ⟨rfl, rfl⟩ := hq
        refine mm_T.seg (f' := (58, [some (.ref 37), some (.int y1), some (.ref 3), some (.int y3), some (.int (mf_pick I 40 8 y3))], [(.int ((mf_pick I 40 8 y3) * (100 - (I 3 6)))), (.int (y1 + 1)), (.int (fX5_leadsTo y3 y1 0 1 3 I)), (.ref 37)])) (h' := (107, I, J, mm_rf 3 sp rr 40 39)) 9 rfl ?_
        refine mm_T.call (t := 97) (as := [(.ref 37), (.int (fX5_leadsTo y3 y1 0 1 3 I)), (.int (y1 + 1)), (.int ((mf_pick I 40 8 y3) * (100 - (I 3 6))))]) (f' := (61, [some (.ref 37), some (.int y1), some (.ref 3), some (.int y3), some (.int (mf_pick I 40 8 y3))], [])) rfl (tX6_flowTo (d + 0) (fX5_leadsTo y3 y1 0 1 3 I) (y1 + 1) ((mf_pick I 40 8 y3) * (100 - (I 3 6))) I J 3 sp rr 40 39 (Or.inl rfl) (Or.inl rfl) _ rfl) (fun v h hq => ?_)
        obtain ⟨rfl, rfl⟩ := hq
        refine mm_T.seg (f' := (67, [some (.ref 37), some (.int y1), some (.ref 3), some (.int y3), some (.int (mf_pick I 40 8 y3))], [(.int 2), (.int 0), (.int y1), (.int y3), (.ref 3), (.ref 37)])) (h' := (107, (fX6_flowTo (fX5_leadsTo y3 y1 0 1 3 I) (y1 + 1) ((mf_pick I 40 8 y3) * (100 - (I 3 6))) I 3 39), J, mm_rf 3 sp rr 40 39)) 6 rfl ?_
        refine mm_T.call (t := 81) (as := [(.ref 3), (.int y3), (.int y1), (.int 0), (.int 2)]) (f' := (70, [some (.ref 37), some (.int y1), some (.ref 3), some (.int y3), some (.int (mf_pick I 40 8 y3))], [(.ref 37)])) rfl (tX5_leadsTo (d + 1) y3 y1 0 2 3 (fX6_flowTo (fX5_leadsTo y3 y1 0 1 3 I) (y1 + 1) ((mf_pick I 40 8 y3) * (100 - (I 3 6))) I 3 39) J 3 sp rr 40 39 (Or.inl rfl) _ rfl) (fun v h hq => ?_)
        obtain ⟨rfl, rfl⟩ := hq
        refine mm_T.seg (f' := (80, [some (.ref 37), some (.int y1), some (.ref 3), some (.int y3), some (.int (mf_pick I 40 8 y3))], [(.int ((mf_pick I 40 8 y3) * ((fX6_flowTo (fX5_leadsTo y3 y1 0 1 3 I) (y1 + 1) ((mf_pick I 40 8 y3) * (100 - (I 3 6))) I 3 39) 3 6))), (.int (y1 + 1)), (.int (fX5_leadsTo y3 y1 0 2 3 (fX6_flowTo (fX5_leadsTo y3 y1 0 1 3 I) (y1 + 1) ((mf_pick I 40 8 y3) * (100 - (I 3 6))) I 3 39))), (.ref 37)])) (h' := (107, (fX6_flowTo (fX5_leadsTo y3 y1 0 1 3 I) (y1 + 1) ((mf_pick I 40 8 y3) * (100 - (I 3 6))) I 3 39), J, mm_rf 3 sp rr 40 39)) 7 rfl ?_
        refine mm_T.call (t := 97) (as := [(.ref 37), (.int (fX5_leadsTo y3 y1 0 2 3 (fX6_flowTo (fX5_leadsTo y3 y1 0 1 3 I) (y1 + 1) ((mf_pick I 40 8 y3) * (100 - (I 3 6))) I 3 39))), (.int (y1 + 1)), (.int ((mf_pick I 40 8 y3) * ((fX6_flowTo (fX5_leadsTo y3 y1 0 1 3 I) (y1 + 1) ((mf_pick I 40 8 y3) * (100 - (I 3 6))) I 3 39) 3 6)))]) (f' := (83, [some (.ref 37), some (.int y1), some (.ref 3), some (.int y3), some (.int (mf_pick I 40 8 y3))], [])) rfl (tX6_flowTo (d + 0) (fX5_leadsTo y3 y1 0 2 3 (fX6_flowTo (fX5_leadsTo y3 y1 0 1 3 I) (y1 + 1) ((mf_pick I 40 8 y3) * (100 - (I 3 6))) I 3 39)) (y1 + 1) ((mf_pick I 40 8 y3) * ((fX6_flowTo (fX5_leadsTo y3 y1 0 1 3 I) (y1 + 1) ((mf_pick I 40 8 y3) * (100 - (I 3 6))) I 3 39) 3 6)) (fX6_flowTo (fX5_leadsTo y3 y1 0 1 3 I) (y1 + 1) ((mf_pick I 40 8 y3) * (100 - (I 3 6))) I 3 39) J 3 sp rr 40 39 (Or.inl rfl) (Or.inl rfl) _ rfl) (fun v h hq => ?_)
        obtain ⟨rfl, rfl⟩ := hq
        refine mm_T.seg (f' := (18, [some (.ref 37), some (.int y1), some (.ref 3), some (.int (y3 + 1)), some (.int (mf_pick I 40 8 y3))], [])) (h' := (107, (fX6_flowTo (fX5_leadsTo y3 y1 0 2 3 (fX6_flowTo (fX5_leadsTo y3 y1 0 1 3 I) (y1 + 1) ((mf_pick I 40 8 y3) * (100 - (I 3 6))) I 3 39)) (y1 + 1) ((mf_pick I 40 8 y3) * ((fX6_flowTo (fX5_leadsTo y3 y1 0 1 3 I) (y1 + 1) ((mf_pick I 40 8 y3) * (100 - (I 3 6))) I 3 39) 3 6)) (fX6_flowTo (fX5_leadsTo y3 y1 0 1 3 I) (y1 + 1) ((mf_pick I 40 8 y3) * (100 - (I 3 6))) I 3 39) 3 39), J, mm_rf 3 sp rr 40 39)) 2 rfl ?_
        refine mm_T.mask [true, true, true, true, false] ?_
        exact ih y1 (y3 + 1) (fX6_flowTo (fX5_leadsTo y3 y1 0 2 3 (fX6_flowTo (fX5_leadsTo y3 y1 0 1 3 I) (y1 + 1) ((mf_pick I 40 8 y3) * (100 - (I 3 6))) I 3 39)) (y1 + 1) ((mf_pick I 40 8 y3) * ((fX6_flowTo (fX5_leadsTo y3 y1 0 1 3 I) (y1 + 1) ((mf_pick I 40 8 y3) * (100 - (I 3 6))) I 3 39) 3 6)) (fX6_flowTo (fX5_leadsTo y3 y1 0 1 3 I) (y1 + 1) ((mf_pick I 40 8 y3) * (100 - (I 3 6))) I 3 39) 3 39) J 3 sp rr 40 39 (Or.inl rfl) (Or.inr rfl) (Or.inl rfl) out e k
      · rw [if_neg h2012] at e
        cases e
        refine mm_T.mask [true, false, false, false, false] ?_
        exact k
    · rw [fX6_flowOn_L18] at e
      refine mm_T.seg (f' := (23, [some (.ref 37), some (.int y1), some (.ref 3), some (.int y3), none], [(.int (I 3 0)), (.int y3)])) (h' := (107, I, J, mm_rf 3 sp rr 40 40)) 3 rfl ?_
      refine mm_T.br (c := y3 < (I 3 0)) (a := ((26, [some (.ref 37), some (.int y1), some (.ref 3), some (.int y3), none], []), (107, I, J, mm_rf 3 sp rr 40 40))) (b := ((89, [some (.ref 37), some (.int y1), some (.ref 3), some (.int y3), none], []), (107, I, J, mm_rf 3 sp rr 40 40))) rfl (fun h2012 => ?_) (fun h2012 => ?_)
      · rw [if_pos h2012] at e
        refine mm_T.seg (f' := (31, [some (.ref 37), some (.int y1), some (.ref 3), some (.int y3), none], [(.int y3), (.ref 40)])) (h' := (107, I, J, mm_rf 3 sp rr 40 40)) 3 rfl ?_
        refine mm_T.call (t := 204) (as := [(.ref 40), (.int y3)]) (f' := (34, [some (.ref 37), some (.int y1), some (.ref 3), some (.int y3), none], [])) rfl (t_pick _ 40 8 y3 I J (mm_rf 3 sp rr 40 40) rfl rfl) (fun v h hq => ?_)
        obtain ⟨rfl, rfl⟩ := hq
        refine mm_T.seg (f' := (42, [some (.ref 37), some (.int y1), some (.ref 3), some (.int y3), some (.int (mf_pick I 40 8 y3))], [(.int 1), (.int 0), (.int y1), (.int y3), (.ref 3), (.ref 37)])) (h' := (107, I, J, mm_rf 3 sp rr 40 40)) 7 rfl ?_
        refine mm_T.call (t := 81) (as := [(.ref 3), (.int y3), (.int y1), (.int 0), (.int 1)]) (f' := (45, [some (.ref 37), some (.int y1), some (.ref 3), some (.int y3), some (.int (mf_pick I 40 8 y3))], [(.ref 37)])) rfl (tX5_leadsTo (d + 1) y3 y1 0 1 3 I J 3 sp rr 40 40 (Or.inl rfl) _ rfl) (fun v h hq => ?_)
        obtain ⟨rfl, rfl⟩ := hq
        refine mm_T.seg (f' := (58, [some (.ref 37), some (.int y1), some (.ref 3), some (.int y3), some (.int (mf_pick I 40 8 y3))], [(.int ((mf_pick I 40 8 y3) * (100 - (I 3 6)))), (.int (y1 + 1)), (.int (fX5_leadsTo y3 y1 0 1 3 I)), (.ref 37)])) (h' := (107, I, J, mm_rf 3 sp rr 40 40)) 9 rfl ?_
        refine mm_T.call (t := 97) (as := [(.ref 37), (.int (fX5_leadsTo y3 y1 0 1 3 I)), (.int (y1 + 1)), (.int ((mf_pick I 40 8 y3) * (100 - (I 3 6))))]) (f' := (61, [some (.ref 37), some (.int y1), some (.ref 3), some (.int y3), some (.int (mf_pick I 40 8 y3))], [])) rfl (tX6_flowTo (d + 0) (fX5_leadsTo y3 y1 0 1 3 I) (y1 + 1) ((mf_pick I 40 8 y3) * (100 - (I 3 6))) I J 3 sp rr 40 40 (Or.inl rfl) (Or.inr rfl) _ rfl) (fun v h hq => ?_)
        obtain ⟨rfl, rfl⟩ := hq
        refine mm_T.seg (f' := (67, [some (.ref 37), some (.int y1), some (.ref 3), some (.int y3), some (.int (mf_pick I 40 8 y3))], [(.int 2), (.int 0), (.int y1), (.int y3), (.ref 3), (.ref 37)])) (h' := (107, (fX6_flowTo (fX5_leadsTo y3 y1 0 1 3 I) (y1 + 1) ((mf_pick I 40 8 y3) * (100 - (I 3 6))) I 3 40), J, mm_rf 3 sp rr 40 40)) 6 rfl ?_
        refine mm_T.call (t := 81) (as := [(.ref 3), (.int y3), (.int y1), (.int 0), (.int 2)]) (f' := (70, [some (.ref 37), some (.int y1), some (.ref 3), some (.int y3), some (.int (mf_pick I 40 8 y3))], [(.ref 37)])) rfl (tX5_leadsTo (d + 1) y3 y1 0 2 3 (fX6_flowTo (fX5_leadsTo y3 y1 0 1 3 I) (y1 + 1) ((mf_pick I 40 8 y3) * (100 - (I 3 6))) I 3 40) J 3 sp rr 40 40 (Or.inl rfl) _ rfl) (fun v h hq => ?_)
        obtain ⟨rfl, rfl⟩ := hq
        refine mm_T.seg (f' := (80, [some (.ref 37), some (.int y1), some (.ref 3), some (.int y3), some (.int (mf_pick I 40 8 y3))], [(.int ((mf_pick I 40 8 y3) * ((fX6_flowTo (fX5_leadsTo y3 y1 0 1 3 I) (y1 + 1) ((mf_pick I 40 8 y3) * (100 - (I 3 6))) I 3 40) 3 6))), (.int (y1 + 1)), (.int (fX5_leadsTo y3 y1 0 2 3 (fX6_flowTo (fX5_leadsTo y3 y1 0 1 3 I) (y1 + 1) ((mf_pick I 40 8 y3) * (100 - (I 3 6))) I 3 40))), (.ref 37)])) (h' := (107, (fX6_flowTo (fX5_leadsTo y3 y1 0 1 3 I) (y1 + 1) ((mf_pick I 40 8 y3) * (100 - (I 3 6))) I 3 40), J, mm_rf 3 sp rr 40 40)) 7 rfl ?_
        refine mm_T.call (t := 97) (as := [(.ref 37), (.int (fX5_leadsTo y3 y1 0 2 3 (fX6_flowTo (fX5_leadsTo y3 y1 0 1 3 I) (y1 + 1) ((mf_pick I 40 8 y3) * (100 - (I 3 6))) I 3 40))), (.int (y1 + 1)), (.int ((mf_pick I 40 8 y3) * ((fX6_flowTo (fX5_leadsTo y3 y1 0 1 3 I) (y1 + 1) ((mf_pick I 40 8 y3) * (100 - (I 3 6))) I 3 40) 3 6)))]) (f' := (83, [some (.ref 37), some (.int y1), some (.ref 3), some (.int y3), some (.int (mf_pick I 40 8 y3))], [])) rfl (tX6_flowTo (d + 0) (fX5_leadsTo y3 y1 0 2 3 (fX6_flowTo (fX5_leadsTo y3 y1 0 1 3 I) (y1 + 1) ((mf_pick I 40 8 y3) * (100 - (I 3 6))) I 3 40)) (y1 + 1) ((mf_pick I 40 8 y3) * ((fX6_flowTo (fX5_leadsTo y3 y1 0 1 3 I) (y1 + 1) ((mf_pick I 40 8 y3) * (100 - (I 3 6))) I 3 40) 3 6)) (fX6_flowTo (fX5_leadsTo y3 y1 0 1 3 I) (y1 + 1) ((mf_pick I 40 8 y3) * (100 - (I 3 6))) I 3 40) J 3 sp rr 40 40 (Or.inl rfl) (Or.inr rfl) _ rfl) (fun v h hq => ?_)
        obtain ⟨rfl, rfl⟩ := hq
        refine mm_T.seg (f' := (18, [some (.ref 37), some (.int y1), some (.ref 3), some (.int (y3 + 1)), some (.int (mf_pick I 40 8 y3))], [])) (h' := (107, (fX6_flowTo (fX5_leadsTo y3 y1 0 2 3 (fX6_flowTo (fX5_leadsTo y3 y1 0 1 3 I) (y1 + 1) ((mf_pick I 40 8 y3) * (100 - (I 3 6))) I 3 40)) (y1 + 1) ((mf_pick I 40 8 y3) * ((fX6_flowTo (fX5_leadsTo y3 y1 0 1 3 I) (y1 + 1) ((mf_pick I 40 8 y3) * (100 - (I 3 6))) I 3 40) 3 6)) (fX6_flowTo (fX5_leadsTo y3 y1 0 1 3 I) (y1 + 1) ((mf_pick I 40 8 y3) * (100 - (I 3 6))) I 3 40) 3 40), J, mm_rf 3 sp rr 40 40)) 2 rfl ?_
        refine mm_T.mask [true, true, true, true, false] ?_
        exact ih y1 (y3 + 1) (fX6_flowTo (fX5_leadsTo y3 y1 0 2 3 (fX6_flowTo (fX5_leadsTo y3 y1 0 1 3 I) (y1 + 1) ((mf_pick I 40 8 y3) * (100 - (I 3 6))) I 3 40)) (y1 + 1) ((mf_pick I 40 8 y3) * ((fX6_flowTo (fX5_leadsTo y3 y1 0 1 3 I) (y1 + 1) ((mf_pick I 40 8 y3) * (100 - (I 3 6))) I 3 40) 3 6)) (fX6_flowTo (fX5_leadsTo y3 y1 0 1 3 I) (y1 + 1) ((mf_pick I 40 8 y3) * (100 - (I 3 6))) I 3 40) 3 40) J 3 sp rr 40 40 (Or.inl rfl) (Or.inr rfl) (Or.inr rfl) out e k
      · rw [if_neg h2012] at e
        cases e
        refine mm_T.mask [true, false, false, false, false] ?_
        exact k
    · rw [fX6_flowOn_L18] at e
      refine mm_T.seg (f' := (23, [some (.ref 37), some (.int y1), some (.ref 19), some (.int y3), none], [(.int (I 19 0)), (.int y3)])) (h' := (107, I, J, mm_rf 19 sp rr 39 39)) 3 rfl ?_
      refine mm_T.br (c := y3 < (I 19 0)) (a := ((26, [some (.ref 37), some (.int y1), some (.ref 19), some (.int y3), none], []), (107, I, J, mm_rf 19 sp rr 39 39))) (b := ((89, [some (.ref 37), some (.int y1), some (.ref 19), some (.int y3), none], []), (107, I, J, mm_rf 19 sp rr 39 39))) rfl (fun h2012 => ?_) (fun h2012 => ?_)
      · rw [if_pos h2012] at e
        refine mm_T.seg (f' := (31, [some (.ref 37), some (.int y1), some (.ref 19), some (.int y3), none], [(.int y3), (.ref 39)])) (h' := (107, I, J, mm_rf 19 sp rr 39 39)) 3 rfl ?_
        refine mm_T.call (t := 204) (as := [(.ref 39), (.int y3)]) (f' := (34, [some (.ref 37), some (.int y1), some (.ref 19), some (.int y3), none], [])) rfl (t_pick _ 39 8 y3 I J (mm_rf 19 sp rr 39 39) rfl rfl) (fun v h hq => ?_)
        obtain ⟨rfl, rfl⟩ := hq
        refine mm_T.seg (f' := (42, [some (.ref 37), some (.int y1), some (.ref 19), some (.int y3), some (.int (mf_pick I 39 8 y3))], [(.int 1), (.int 0), (.int y1), (.int y3), (.ref 19), (.ref 37)])) (h' := (107, I, J, mm_rf 19 sp rr 39 39)) 7 rfl ?_
        refine mm_T.call (t := 81) (as := [(.ref 19), (.int y3), (.int y1), (.int 0), (.int 1)]) (f' := (45, [some (.ref 37), some (.int y1), some (.ref 19), some (.int y3), some (.int (mf_pick I 39 8 y3))], [(.ref 37)])) rfl (tX5_leadsTo (d + 1) y3 y1 0 1 19 I J 19 sp rr 39 39 (Or.inr rfl) _ rfl) (fun v h hq => ?_)
        obtain ⟨rfl, rfl⟩ := hq
        refine mm_T.seg (f' := (58, [some (.ref 37), some (.int y1), some (.ref 19), some (.int y3), some (.int (mf_pick I 39 8 y3))], [(.int ((mf_pick I 39 8 y3) * (100 - (I 19 6)))), (.int (y1 + 1)), (.int (fX5_leadsTo y3 y1 0 1 19 I)), (.ref 37)])) (h' := (107, I, J, mm_rf 19 sp rr 39 39)) 9 rfl ?_
        refine mm_T.call (t := 97) (as := [(.ref 37), (.int (fX5_leadsTo y3 y1 0 1 19 I)), (.int (y1 + 1)), (.int ((mf_pick I 39 8 y3) * (100 - (I 19 6))))]) (f' := (61, [some (.ref 37), some (.int y1), some (.ref 19), some (.int y3), some (.int (mf_pick I 39 8 y3))], [])) rfl (tX6_flowTo (d + 0) (fX5_leadsTo y3 y1 0 1 19 I) (y1 + 1) ((mf_pick I 39 8 y3) * (100 - (I 19 6))) I J 19 sp rr 39 39 (Or.inr rfl) (Or.inl rfl) _ rfl) (fun v h hq => ?_)
        obtain ⟨rfl, rfl⟩ := hq
        refine mm_T.seg (f' := (67, [some (.ref 37), some (.int y1), some (.ref 19), some (.int y3), some (.int (mf_pick I 39 8 y3))], [(.int 2), (.int 0), (.int y1), (.int y3), (.ref 19), (.ref 37)])) (h' := (107, (fX6_flowTo (fX5_leadsTo y3 y1 0 1 19 I) (y1 + 1) ((mf_pick I 39 8 y3) * (100 - (I 19 6))) I 19 39), J, mm_rf 19 sp rr 39 39)) 6 rfl ?_
        refine mm_T.call (t := 81) (as := [(.ref 19), (.int y3), (.int y1), (.int 0), (.int 2)]) (f' := (70, [some (.ref 37), some (.int y1), some (.ref 19), some (.int y3), some (.int (mf_pick I 39 8 y3))], [(.ref 37)])) rfl (tX5_leadsTo (d + 1) y3 y1 0 2 19 (fX6_flowTo (fX5_leadsTo y3 y1 0 1 19 I) (y1 + 1) ((mf_pick I 39 8 y3) * (100 - (I 19 6))) I 19 39) J 19 sp rr 39 39 (Or.inr rfl) _ rfl) (fun v h hq => ?_)
        obtain ⟨rfl, rfl⟩ := hq
        refine mm_T.seg (f' := (80, [some (.ref 37), some (.int y1), some (.ref 19), some (.int y3), some (.int (mf_pick I 39 8 y3))], [(.int ((mf_pick I 39 8 y3) * ((fX6_flowTo (fX5_leadsTo y3 y1 0 1 19 I) (y1 + 1) ((mf_pick I 39 8 y3) * (100 - (I 19 6))) I 19 39) 19 6))), (.int (y1 + 1)), (.int (fX5_leadsTo y3 y1 0 2 19 (fX6_flowTo (fX5_leadsTo y3 y1 0 1 19 I) (y1 + 1) ((mf_pick I 39 8 y3) * (100 - (I 19 6))) I 19 39))), (.ref 37)])) (h' := (107, (fX6_flowTo (fX5_leadsTo y3 y1 0 1 19 I) (y1 + 1) ((mf_pick I 39 8 y3) * (100 - (I 19 6))) I 19 39), J, mm_rf 19 sp rr 39 39)) 7 rfl ?_
        refine mm_T.call (t := 97) (as := [(.ref 37), (.int (fX5_leadsTo y3 y1 0 2 19 (fX6_flowTo (fX5_leadsTo y3 y1 0 1 19 I) (y1 + 1) ((mf_pick I 39 8 y3) * (100 - (I 19 6))) I 19 39))), (.int (y1 + 1)), (.int ((mf_pick I 39 8 y3) * ((fX6_flowTo (fX5_leadsTo y3 y1 0 1 19 I) (y1 + 1) ((mf_pick I 39 8 y3) * (100 - (I 19 6))) I 19 39) 19 6)))]) (f' := (83, [some (.ref 37), some (.int y1), some (.ref 19), some (.int y3), some (.int (mf_pick I 39 8 y3))], [])) rfl (tX6_flowTo (d + 0) (fX5_leadsTo y3 y1 0 2 19 (fX6_flowTo (fX5_leadsTo y3 y1 0 1 19 I) (y1 + 1) ((mf_pick I 39 8 y3) * (100 - (I 19 6))) I 19 39)) (y1 + 1) ((mf_pick I 39 8 y3) * ((fX6_flowTo (fX5_leadsTo y3 y1 0 1 19 I) (y1 + 1) ((mf_pick I 39 8 y3) * (100 - (I 19 6))) I 19 39) 19 6)) (fX6_flowTo (fX5_leadsTo y3 y1 0 1 19 I) (y1 + 1) ((mf_pick I 39 8 y3) * (100 - (I 19 6))) I 19 39) J 19 sp rr 39 39 (Or.inr rfl) (Or.inl rfl) _ rfl) (fun v h hq => ?_)
        obtain ⟨rfl, rfl⟩ := hq
        refine mm_T.seg (f' := (18, [some (.ref 37), some (.int y1), some (.ref 19), some (.int (y3 + 1)), some (.int (mf_pick I 39 8 y3))], [])) (h' := (107, (fX6_flowTo (fX5_leadsTo y3 y1 0 2 19 (fX6_flowTo (fX5_leadsTo y3 y1 0 1 19 I) (y1 + 1) ((mf_pick I 39 8 y3) * (100 - (I 19 6))) I 19 39)) (y1 + 1) ((mf_pick I 39 8 y3) * ((fX6_flowTo (fX5_leadsTo y3 y1 0 1 19 I) (y1 + 1) ((mf_pick I 39 8 y3) * (100 - (I 19 6))) I 19 39) 19 6)) (fX6_flowTo (fX5_leadsTo y3 y1 0 1 19 I) (y1 + 1) ((mf_pick I 39 8 y3) * (100 - (I 19 6))) I 19 39) 19 39), J, mm_rf 19 sp rr 39 39)) 2 rfl ?_
        refine mm_T.mask [true, true, true, true, false] ?_
        exact ih y1 (y3 + 1) (fX6_flowTo (fX5_leadsTo y3 y1 0 2 19 (fX6_flowTo (fX5_leadsTo y3 y1 0 1 19 I) (y1 + 1) ((mf_pick I 39 8 y3) * (100 - (I 19 6))) I 19 39)) (y1 + 1) ((mf_pick I 39 8 y3) * ((fX6_flowTo (fX5_leadsTo y3 y1 0 1 19 I) (y1 + 1) ((mf_pick I 39 8 y3) * (100 - (I 19 6))) I 19 39) 19 6)) (fX6_flowTo (fX5_leadsTo y3 y1 0 1 19 I) (y1 + 1) ((mf_pick I 39 8 y3) * (100 - (I 19 6))) I 19 39) 19 39) J 19 sp rr 39 39 (Or.inr rfl) (Or.inl rfl) (Or.inl rfl) out e k
      · rw [if_neg h2012] at e
        cases e
        refine mm_T.mask [true, false, false, false, false] ?_
        exact k
    · rw [fX6_flowOn_L18] at e
      refine mm_T.seg (f' := (23, [some (.ref 37), some (.int y1), some (.ref 19), some (.int y3), none], [(.int (I 19 0)), (.int y3)])) (h' := (107, I, J, mm_rf 19 sp rr 39 40)) 3 rfl ?_
      refine mm_T.br (c := y3 < (I 19 0)) (a := ((26, [some (.ref 37), some (.int y1), some (.ref 19), some (.int y3), none], []), (107, I, J, mm_rf 19 sp rr 39 40))) (b := ((89, [some (.ref 37), some (.int y1), some (.ref 19), some (.int y3), none], []), (107, I, J, mm_rf 19 sp rr 39 40))) rfl (fun h2012 => ?_) (fun h2012 => ?_)
      · rw [if_pos h2012] at e
        refine mm_T.seg (f' := (31, [some (.ref 37), some (.int y1), some (.ref 19), some (.int y3), none], [(.int y3), (.ref 39)])) (h' := (107, I, J, mm_rf 19 sp rr 39 40)) 3 rfl ?_
        refine mm_T.call (t := 204) (as := [(.ref 39), (.int y3)]) (f' := (34, [some (.ref 37), some (.int y1), some (.ref 19), some (.int y3), none], [])) rfl (t_pick _ 39 8 y3 I J (mm_rf 19 sp rr 39 40) rfl rfl) (fun v h hq => ?_)
        obtain ⟨rfl, rfl⟩ := hq
        refine mm_T.seg (f' := (42, [some (.ref 37), some (.int y1), some (.ref 19), some (.int y3), some (.int (mf_pick I 39 8 y3))], [(.int 1), (.int 0), (.int y1), (.int y3), (.ref 19), (.ref 37)])) (h' := (107, I, J, mm_rf 19 sp rr 39 40)) 7 rfl ?_
        refine mm_T.call (t := 81) (as := [(.ref 19), (.int y3), (.int y1), (.int 0), (.int 1)]) (f' := (45, [some (.ref 37), some (.int y1), some (.ref 19), some (.int y3), some (.int (mf_pick I 39 8 y3))], [(.ref 37)])) rfl (tX5_leadsTo (d + 1) y3 y1 0 1 19 I J 19 sp rr 39 40 (Or.inr rfl) _ rfl) (fun v h hq => ?_)
        obtain ⟨rfl, rfl⟩ := hq
        refine mm_T.seg (f' := (58, [some (.ref 37), some (.int y1), some (.ref 19), some (.int y3), some (.int (mf_pick I 39 8 y3))], [(.int ((mf_pick I 39 8 y3) * (100 - (I 19 6)))), (.int (y1 + 1)), (.int (fX5_leadsTo y3 y1 0 1 19 I)), (.ref 37)])) (h' := (107, I, J, mm_rf 19 sp rr 39 40)) 9 rfl ?_
        refine mm_T.call (t := 97) (as := [(.ref 37), (.int (fX5_leadsTo y3 y1 0 1 19 I)), (.int (y1 + 1)), (.int ((mf_pick I 39 8 y3) * (100 - (I 19 6))))]) (f' := (61, [some (.ref 37), some (.int y1), some (.ref 19), some (.int y3), some (.int (mf_pick I 39 8 y3))], [])) rfl (tX6_flowTo (d + 0) (fX5_leadsTo y3 y1 0 1 19 I) (y1 + 1) ((mf_pick I 39 8 y3) * (100 - (I 19 6))) I J 19 sp rr 39 40 (Or.inr rfl) (Or.inr rfl) _ rfl) (fun v h hq => ?_)
        obtain ⟨rfl, rfl⟩ := hq
        refine mm_T.seg (f' := (67, [some (.ref 37), some (.int y1), some (.ref 19), some (.int y3), some (.int (mf_pick I 39 8 y3))], [(.int 2), (.int 0), (.int y1), (.int y3), (.ref 19), (.ref 37)])) (h' := (107, (fX6_flowTo (fX5_leadsTo y3 y1 0 1 19 I) (y1 + 1) ((mf_pick I 39 8 y3) * (100 - (I 19 6))) I 19 40), J, mm_rf 19 sp rr 39 40)) 6 rfl ?_
        refine mm_T.call (t := 81) (as := [(.ref 19), (.int y3), (.int y1), (.int 0), (.int 2)]) (f' := (70, [some (.ref 37), some (.int y1), some (.ref 19), some (.int y3), some (.int (mf_pick I 39 8 y3))], [(.ref 37)])) rfl (tX5_leadsTo (d + 1) y3 y1 0 2 19 (fX6_flowTo (fX5_leadsTo y3 y1 0 1 19 I) (y1 + 1) ((mf_pick I 39 8 y3) * (100 - (I 19 6))) I 19 40) J 19 sp rr 39 40 (Or.inr rfl) _ rfl) (fun v h hq => ?_)
        obtain ⟨rfl, rfl⟩ := hq
        refine mm_T.seg (f' := (80, [some (.ref 37), some (.int y1), some (.ref 19), some (.int y3), some (.int (mf_pick I 39 8 y3))], [(.int ((mf_pick I 39 8 y3) * ((fX6_flowTo (fX5_leadsTo y3 y1 0 1 19 I) (y1 + 1) ((mf_pick I 39 8 y3) * (100 - (I 19 6))) I 19 40) 19 6))), (.int (y1 + 1)), (.int (fX5_leadsTo y3 y1 0 2 19 (fX6_flowTo (fX5_leadsTo y3 y1 0 1 19 I) (y1 + 1) ((mf_pick I 39 8 y3) * (100 - (I 19 6))) I 19 40))), (.ref 37)])) (h' := (107, (fX6_flowTo (fX5_leadsTo y3 y1 0 1 19 I) (y1 + 1) ((mf_pick I 39 8 y3) * (100 - (I 19 6))) I 19 40), J, mm_rf 19 sp rr 39 40)) 7 rfl ?_
        refine mm_T.call (t := 97) (as := [(.ref 37), (.int (fX5_leadsTo y3 y1 0 2 19 (fX6_flowTo (fX5_leadsTo y3 y1 0 1 19 I) (y1 + 1) ((mf_pick I 39 8 y3) * (100 - (I 19 6))) I 19 40))), (.int (y1 + 1)), (.int ((mf_pick I 39 8 y3) * ((fX6_flowTo (fX5_leadsTo y3 y1 0 1 19 I) (y1 + 1) ((mf_pick I 39 8 y3) * (100 - (I 19 6))) I 19 40) 19 6)))]) (f' := (83, [some (.ref 37), some (.int y1), some (.ref 19), some (.int y3), some (.int (mf_pick I 39 8 y3))], [])) rfl (tX6_flowTo (d + 0) (fX5_leadsTo y3 y1 0 2 19 (fX6_flowTo (fX5_leadsTo y3 y1 0 1 19 I) (y1 + 1) ((mf_pick I 39 8 y3) * (100 - (I 19 6))) I 19 40)) (y1 + 1) ((mf_pick I 39 8 y3) * ((fX6_flowTo (fX5_leadsTo y3 y1 0 1 19 I) (y1 + 1) ((mf_pick I 39 8 y3) * (100 - (I 19 6))) I 19 40) 19 6)) (fX6_flowTo (fX5_leadsTo y3 y1 0 1 19 I) (y1 + 1) ((mf_pick I 39 8 y3) * (100 - (I 19 6))) I 19 40) J 19 sp rr 39 40 (Or.inr rfl) (Or.inr rfl) _ rfl) (fun v h hq => ?_)
        obtain ⟨rfl, rfl⟩ := hq
        refine mm_T.seg (f' := (18, [some (.ref 37), some (.int y1), some (.ref 19), some (.int (y3 + 1)), some (.int (mf_pick I 39 8 y3))], [])) (h' := (107, (fX6_flowTo (fX5_leadsTo y3 y1 0 2 19 (fX6_flowTo (fX5_leadsTo y3 y1 0 1 19 I) (y1 + 1) ((mf_pick I 39 8 y3) * (100 - (I 19 6))) I 19 40)) (y1 + 1) ((mf_pick I 39 8 y3) * ((fX6_flowTo (fX5_leadsTo y3 y1 0 1 19 I) (y1 + 1) ((mf_pick I 39 8 y3) * (100 - (I 19 6))) I 19 40) 19 6)) (fX6_flowTo (fX5_leadsTo y3 y1 0 1 19 I) (y1 + 1) ((mf_pick I 39 8 y3) * (100 - (I 19 6))) I 19 40) 19 40), J, mm_rf 19 sp rr 39 40)) 2 rfl ?_
        refine mm_T.mask [true, true, true, true, false] ?_
        exact ih y1 (y3 + 1) (fX6_flowTo (fX5_leadsTo y3 y1 0 2 19 (fX6_flowTo (fX5_leadsTo y3 y1 0 1 19 I) (y1 + 1) ((mf_pick I 39 8 y3) * (100 - (I 19 6))) I 19 40)) (y1 + 1) ((mf_pick I 39 8 y3) * ((fX6_flowTo (fX5_leadsTo y3 y1 0 1 19 I) (y1 + 1) ((mf_pick I 39 8 y3) * (100 - (I 19 6))) I 19 40) 19 6)) (fX6_flowTo (fX5_leadsTo y3 y1 0 1 19 I) (y1 + 1) ((mf_pick I 39 8 y3) * (100 - (I 19 6))) I 19 40) 19 40) J 19 sp rr 39 40 (Or.inr rfl) (Or.inl rfl) (Or.inr rfl) out e k
      · rw [if_neg h2012] at e
        cases e
        refine mm_T.mask [true, false, false, false, false] ?_
        exact k
    · rw [fX6_flowOn_L18] at e
      refine mm_T.seg (f' := (23, [some (.ref 37), some (.int y1), some (.ref 19), some (.int y3), none], [(.int (I 19 0)), (.int y3)])) (h' := (107, I, J, mm_rf 19 sp rr 40 39)) 3 rfl ?_
      refine mm_T.br (c := y3 < (I 19 0)) (a := ((26, [some (.ref 37), some (.int y1), some (.ref 19), some (.int y3), none], []), (107, I, J, mm_rf 19 sp rr 40 39))) (b := ((89, [some (.ref 37), some (.int y1), some (.ref 19), some (.int y3), none], []), (107, I, J, mm_rf 19 sp rr 40 39))) rfl (fun h2012 => ?_) (fun h2012 => ?_)
      · rw [if_pos h2012] at e
        refine mm_T.seg (f' := (31, [some (.ref 37), some (.int y1), some (.ref 19), some (.int y3), none], [(.int y3), (.ref 40)])) (h' := (107, I, J, mm_rf 19 sp rr 40 39)) 3 rfl ?_
        refine mm_T.call (t := 204) (as := [(.ref 40), (.int y3)]) (f' := (34, [some (.ref 37), some (.int y1), some (.ref 19), some (.int y3), none], [])) rfl (t_pick _ 40 8 y3 I J (mm_rf 19 sp rr 40 39) rfl rfl) (fun v h hq => ?_)
        obtain ⟨rfl, rfl⟩ := hq
        refine mm_T.seg (f' := (42, [some (.ref 37), some (.int y1), some (.ref 19), some (.int y3), some (.int (mf_pick I 40 8 y3))], [(.int 1), (.int 0), (.int y1), (.int y3), (.ref 19), (.ref 37)])) (h' := (107, I, J, mm_rf 19 sp rr 40 39)) 7 rfl ?_
        refine mm_T.call (t := 81) (as := [(.ref 19), (.int y3), (.int y1), (.int 0), (.int 1)]) (f' := (45, [some (.ref 37), some (.int y1), some (.ref 19), some (.int y3), some (.int (mf_pick I 40 8 y3))], [(.ref 37)])) rfl (tX5_leadsTo (d + 1) y3 y1 0 1 19 I J 19 sp rr 40 39 (Or.inr rfl) _ rfl) (fun v h hq => ?_)
        obtain ⟨rfl, rfl⟩ := hq
        refine mm_T.seg (f' := (58, [some (.ref 37), some (.int y1), some (.ref 19), some (.int y3), some (.int (mf_pick I 40 8 y3))], [(.int ((mf_pick I 40 8 y3) * (100 - (I 19 6)))), (.int (y1 + 1)), (.int (fX5_leadsTo y3 y1 0 1 19 I)), (.ref 37)])) (h' := (107, I, J, mm_rf 19 sp rr 40 39)) 9 rfl ?_
        refine mm_T.call (t := 97) (as := [(.ref 37), (.int (fX5_leadsTo y3 y1 0 1 19 I)), (.int (y1 + 1)), (.int ((mf_pick I 40 8 y3) * (100 - (I 19 6))))]) (f' := (61, [some (.ref 37), some (.int y1), some (.ref 19), some (.int y3), some (.int (mf_pick I 40 8 y3))], [])) rfl (tX6_flowTo (d + 0) (fX5_leadsTo y3 y1 0 1 19 I) (y1 + 1) ((mf_pick I 40 8 y3) * (100 - (I 19 6))) I J 19 sp rr 40 39 (Or.inr rfl) (Or.inl rfl) _ rfl) (fun v h hq => ?_)
        obtain ⟨rfl, rfl⟩ := hq
        refine mm_T.seg (f' := (67, [some (.ref 37), some (.int y1), some (.ref 19), some (.int y3), some (.int (mf_pick I 40 8 y3))], [(.int 2), (.int 0), (.int y1), (.int y3), (.ref 19), (.ref 37)])) (h' := (107, (fX6_flowTo (fX5_leadsTo y3 y1 0 1 19 I) (y1 + 1) ((mf_pick I 40 8 y3) * (100 - (I 19 6))) I 19 39), J, mm_rf 19 sp rr 40 39)) 6 rfl ?_
        refine mm_T.call (t := 81) (as := [(.ref 19), (.int y3), (.int y1), (.int 0), (.int 2)]) (f' := (70, [some (.ref 37), some (.int y1), some (.ref 19), some (.int y3), some (.int (mf_pick I 40 8 y3))], [(.ref 37)])) rfl (tX5_leadsTo (d + 1) y3 y1 0 2 19 (fX6_flowTo (fX5_leadsTo y3 y1 0 1 19 I) (y1 + 1) ((mf_pick I 40 8 y3) * (100 - (I 19 6))) I 19 39) J 19 sp rr 40 39 (Or.inr rfl) _ rfl) (fun v h hq => ?_)
        obtain ⟨rfl, rfl⟩ := hq
        refine mm_T.seg (f' := (80, [some (.ref 37), some (.int y1), some (.ref 19), some (.int y3), some (.int (mf_pick I 40 8 y3))], [(.int ((mf_pick I 40 8 y3) * ((fX6_flowTo (fX5_leadsTo y3 y1 0 1 19 I) (y1 + 1) ((mf_pick I 40 8 y3) * (100 - (I 19 6))) I 19 39) 19 6))), (.int (y1 + 1)), (.int (fX5_leadsTo y3 y1 0 2 19 (fX6_flowTo (fX5_leadsTo y3 y1 0 1 19 I) (y1 + 1) ((mf_pick I 40 8 y3) * (100 - (I 19 6))) I 19 39))), (.ref 37)])) (h' := (107, (fX6_flowTo (fX5_leadsTo y3 y1 0 1 19 I) (y1 + 1) ((mf_pick I 40 8 y3) * (100 - (I 19 6))) I 19 39), J, mm_rf 19 sp rr 40 39)) 7 rfl ?_
        refine mm_T.call (t := 97) (as := [(.ref 37), (.int (fX5_leadsTo y3 y1 0 2 19 (fX6_flowTo (fX5_leadsTo y3 y1 0 1 19 I) (y1 + 1) ((mf_pick I 40 8 y3) * (100 - (I 19 6))) I 19 39))), (.int (y1 + 1)), (.int ((mf_pick I 40 8 y3) * ((fX6_flowTo (fX5_leadsTo y3 y1 0 1 19 I) (y1 + 1) ((mf_pick I 40 8 y3) * (100 - (I 19 6))) I 19 39) 19 6)))]) (f' := (83, [some (.ref 37), some (.int y1), some (.ref 19), some (.int y3), some (.int (mf_pick I 40 8 y3))], [])) rfl (tX6_flowTo (d + 0) (fX5_leadsTo y3 y1 0 2 19 (fX6_flowTo (fX5_leadsTo y3 y1 0 1 19 I) (y1 + 1) ((mf_pick I 40 8 y3) * (100 - (I 19 6))) I 19 39)) (y1 + 1) ((mf_pick I 40 8 y3) * ((fX6_flowTo (fX5_leadsTo y3 y1 0 1 19 I) (y1 + 1) ((mf_pick I 40 8 y3) * (100 - (I 19 6))) I 19 39) 19 6)) (fX6_flowTo (fX5_leadsTo y3 y1 0 1 19 I) (y1 + 1) ((mf_pick I 40 8 y3) * (100 - (I 19 6))) I 19 39) J 19 sp rr 40 39 (Or.inr rfl) (Or.inl rfl) _ rfl) (fun v h hq => ?_)
        obtain ⟨rfl, rfl⟩ := hq
        refine mm_T.seg (f' := (18, [some (.ref 37), some (.int y1), some (.ref 19), some (.int (y3 + 1)), some (.int (mf_pick I 40 8 y3))], [])) (h' := (107, (fX6_flowTo (fX5_leadsTo y3 y1 0 2 19 (fX6_flowTo (fX5_leadsTo y3 y1 0 1 19 I) (y1 + 1) ((mf_pick I 40 8 y3) * (100 - (I 19 6))) I 19 39)) (y1 + 1) ((mf_pick I 40 8 y3) * ((fX6_flowTo (fX5_leadsTo y3 y1 0 1 19 I) (y1 + 1) ((mf_pick I 40 8 y3) * (100 - (I 19 6))) I 19 39) 19 6)) (fX6_flowTo (fX5_leadsTo y3 y1 0 1 19 I) (y1 + 1) ((mf_pick I 40 8 y3) * (100 - (I 19 6))) I 19 39) 19 39), J, mm_rf 19 sp rr 40 39)) 2 rfl ?_
        refine mm_T.mask [true, true, true, true, false] ?_
        exact ih y1 (y3 + 1) (fX6_flowTo (fX5_leadsTo y3 y1 0 2 19 (fX6_flowTo (fX5_leadsTo y3 y1 0 1 19 I) (y1 + 1) ((mf_pick I 40 8 y3) * (100 - (I 19 6))) I 19 39)) (y1 + 1) ((mf_pick I 40 8 y3) * ((fX6_flowTo (fX5_leadsTo y3 y1 0 1 19 I) (y1 + 1) ((mf_pick I 40 8 y3) * (100 - (I 19 6))) I 19 39) 19 6)) (fX6_flowTo (fX5_leadsTo y3 y1 0 1 19 I) (y1 + 1) ((mf_pick I 40 8 y3) * (100 - (I 19 6))) I 19 39) 19 39) J 19 sp rr 40 39 (Or.inr rfl) (Or.inr rfl) (Or.inl rfl) out e k
      · rw [if_neg h2012] at e
        cases e
        refine mm_T.mask [true, false, false, false, false] ?_
        exact k
    · rw [fX6_flowOn_L18] at e
      refine mm_T.seg (f' := (23, [some (.ref 37), some (.int y1), some (.ref 19), some (.int y3), none], [(.int (I 19 0)), (.int y3)])) (h' := (107, I, J, mm_rf 19 sp rr 40 40)) 3 rfl ?_
      refine mm_T.br (c := y3 < (I 19 0)) (a := ((26, [some (.ref 37), some (.int y1), some (.ref 19), some (.int y3), none], []), (107, I, J, mm_rf 19 sp rr 40 40))) (b := ((89, [some (.ref 37), some (.int y1), some (.ref 19), some (.int y3), none], []), (107, I, J, mm_rf 19 sp rr 40 40))) rfl (fun h2012 => ?_) (fun h2012 => ?_)
      · rw [if_pos h2012] at e
        refine mm_T.seg (f' := (31, [some (.ref 37), some (.int y1), some (.ref 19), some (.int y3), none], [(.int y3), (.ref 40)])) (h' := (107, I, J, mm_rf 19 sp rr 40 40)) 3 rfl ?_
        refine mm_T.call (t := 204) (as := [(.ref 40), (.int y3)]) (f' := (34, [some (.ref 37), some (.int y1), some (.ref 19), some (.int y3), none], [])) rfl (t_pick _ 40 8 y3 I J (mm_rf 19 sp rr 40 40) rfl rfl) (fun v h hq => ?_)
        obtain ⟨rfl, rfl⟩ := hq
        refine mm_T.seg (f' := (42, [some (.ref 37), some (.int y1), some (.ref 19), some (.int y3), some (.int (mf_pick I 40 8 y3))], [(.int 1), (.int 0), (.int y1), (.int y3), (.ref 19), (.ref 37)])) (h' := (107, I, J, mm_rf 19 sp rr 40 40)) 7 rfl ?_
        refine mm_T.call (t := 81) (as := [(.ref 19), (.int y3), (.int y1), (.int 0), (.int 1)]) (f' := (45, [some (.ref 37), some (.int y1), some (.ref 19), some (.int y3), some (.int (mf_pick I 40 8 y3))], [(.ref 37)])) rfl (tX5_leadsTo (d + 1) y3 y1 0 1 19 I J 19 sp rr 40 40 (Or.inr rfl) _ rfl) (fun v h hq => ?_)
        obtain ⟨rfl, rfl⟩ := hq
        refine mm_T.seg (f' := (58, [some (.ref 37), some (.int y1), some (.ref 19), some (.int y3), some (.int (mf_pick I 40 8 y3))], [(.int ((mf_pick I 40 8 y3) * (100 - (I 19 6)))), (.int (y1 + 1)), (.int (fX5_leadsTo y3 y1 0 1 19 I)), (.ref 37)])) (h' := (107, I, J, mm_rf 19 sp rr 40 40)) 9 rfl ?_
        refine mm_T.call (t := 97) (as := [(.ref 37), (.int (fX5_leadsTo y3 y1 0 1 19 I)), (.int (y1 + 1)), (.int ((mf_pick I 40 8 y3) * (100 - (I 19 6))))]) (f' := (61, [some (.ref 37), some (.int y1), some (.ref 19), some (.int y3), some (.int (mf_pick I 40 8 y3))], [])) rfl (tX6_flowTo (d + 0) (fX5_leadsTo y3 y1 0 1 19 I) (y1 + 1) ((mf_pick I 40 8 y3) * (100 - (I 19 6))) I J 19 sp rr 40 40 (Or.inr rfl) (Or.inr rfl) _ rfl) (fun v h hq => ?_)
        obtain ⟨rfl, rfl⟩ := hq
        refine mm_T.seg (f' := (67, [some (.ref 37), some (.int y1), some (.ref 19), some (.int y3), some (.int (mf_pick I 40 8 y3))], [(.int 2), (.int 0), (.int y1), (.int y3), (.ref 19), (.ref 37)])) (h' := (107, (fX6_flowTo (fX5_leadsTo y3 y1 0 1 19 I) (y1 + 1) ((mf_pick I 40 8 y3) * (100 - (I 19 6))) I 19 40), J, mm_rf 19 sp rr 40 40)) 6 rfl ?_
        refine mm_T.call (t := 81) (as := [(.ref 19), (.int y3), (.int y1), (.int 0), (.int 2)]) (f' := (70, [some (.ref 37), some (.int y1), some (.ref 19), some (.int y3), some (.int (mf_pick I 40 8 y3))], [(.ref 37)])) rfl (tX5_leadsTo (d + 1) y3 y1 0 2 19 (fX6_flowTo (fX5_leadsTo y3 y1 0 1 19 I) (y1 + 1) ((mf_pick I 40 8 y3) * (100 - (I 19 6))) I 19 40) J 19 sp rr 40 40 (Or.inr rfl) _ rfl) (fun v h hq => ?_)
        obtain ⟨rfl, rfl⟩ := hq
        refine mm_T.seg (f' := (80, [some (.ref 37), some (.int y1), some (.ref 19), some (.int y3), some (.int (mf_pick I 40 8 y3))], [(.int ((mf_pick I 40 8 y3) * ((fX6_flowTo (fX5_leadsTo y3 y1 0 1 19 I) (y1 + 1) ((mf_pick I 40 8 y3) * (100 - (I 19 6))) I 19 40) 19 6))), (.int (y1 + 1)), (.int (fX5_leadsTo y3 y1 0 2 19 (fX6_flowTo (fX5_leadsTo y3 y1 0 1 19 I) (y1 + 1) ((mf_pick I 40 8 y3) * (100 - (I 19 6))) I 19 40))), (.ref 37)])) (h' := (107, (fX6_flowTo (fX5_leadsTo y3 y1 0 1 19 I) (y1 + 1) ((mf_pick I 40 8 y3) * (100 - (I 19 6))) I 19 40), J, mm_rf 19 sp rr 40 40)) 7 rfl ?_
        refine mm_T.call (t := 97) (as := [(.ref 37), (.int (fX5_leadsTo y3 y1 0 2 19 (fX6_flowTo (fX5_leadsTo y3 y1 0 1 19 I) (y1 + 1) ((mf_pick I 40 8 y3) * (100 - (I 19 6))) I 19 40))), (.int (y1 + 1)), (.int ((mf_pick I 40 8 y3) * ((fX6_flowTo (fX5_leadsTo y3 y1 0 1 19 I) (y1 + 1) ((mf_pick I 40 8 y3) * (100 - (I 19 6))) I 19 40) 19 6)))]) (f' := (83, [some (.ref 37), some (.int y1), some (.ref 19), some (.int y3), some (.int (mf_pick I 40 8 y3))], [])) rfl (tX6_flowTo (d + 0) (fX5_leadsTo y3 y1 0 2 19 (fX6_flowTo (fX5_leadsTo y3 y1 0 1 19 I) (y1 + 1) ((mf_pick I 40 8 y3) * (100 - (I 19 6))) I 19 40)) (y1 + 1) ((mf_pick I 40 8 y3) * ((fX6_flowTo (fX5_leadsTo y3 y1 0 1 19 I) (y1 + 1) ((mf_pick I 40 8 y3) * (100 - (I 19 6))) I 19 40) 19 6)) (fX6_flowTo (fX5_leadsTo y3 y1 0 1 19 I) (y1 + 1) ((mf_pick I 40 8 y3) * (100 - (I 19 6))) I 19 40) J 19 sp rr 40 40 (Or.inr rfl) (Or.inr rfl) _ rfl) (fun v h hq => ?_)
        obtain ⟨rfl, rfl⟩ := hq
        refine mm_T.seg (f' := (18, [some (.ref 37), some (.int y1), some (.ref 19), some (.int (y3 + 1)), some (.int (mf_pick I 40 8 y3))], [])) (h' := (107, (fX6_flowTo (fX5_leadsTo y3 y1 0 2 19 (fX6_flowTo (fX5_leadsTo y3 y1 0 1 19 I) (y1 + 1) ((mf_pick I 40 8 y3) * (100 - (I 19 6))) I 19 40)) (y1 + 1) ((mf_pick I 40 8 y3) * ((fX6_flowTo (fX5_leadsTo y3 y1 0 1 19 I) (y1 + 1) ((mf_pick I 40 8 y3) * (100 - (I 19 6))) I 19 40) 19 6)) (fX6_flowTo (fX5_leadsTo y3 y1 0 1 19 I) (y1 + 1) ((mf_pick I 40 8 y3) * (100 - (I 19 6))) I 19 40) 19 40), J, mm_rf 19 sp rr 40 40)) 2 rfl ?_
        refine mm_T.mask [true, true, true, true, false] ?_
        exact ih y1 (y3 + 1) (fX6_flowTo (fX5_leadsTo y3 y1 0 2 19 (fX6_flowTo (fX5_leadsTo y3 y1 0 1 19 I) (y1 + 1) ((mf_pick I 40 8 y3) * (100 - (I 19 6))) I 19 40)) (y1 + 1) ((mf_pick I 40 8 y3) * ((fX6_flowTo (fX5_leadsTo y3 y1 0 1 19 I) (y1 + 1) ((mf_pick I 40 8 y3) * (100 - (I 19 6))) I 19 40) 19 6)) (fX6_flowTo (fX5_leadsTo y3 y1 0 1 19 I) (y1 + 1) ((mf_pick I 40 8 y3) * (100 - (I 19 6))) I 19 40) 19 40) J 19 sp rr 40 40 (Or.inr rfl) (Or.inr rfl) (Or.inr rfl) out e k
      · rw [if_neg h2012] at e
        cases e
        refine mm_T.mask [true, false, false, false, false] ?_
        exact k
set_option maxRecDepth 100000 in
set_option maxHeartbeats 4000000 in
theorem tX6_flowOn (d n : Nat) (x1 : Int32) (I : Nat → Nat → Int32) (J : Nat → Nat → Int64) (rv sp rr w nw : Nat) (hrv : rv = 3 ∨ rv = 19) (hw : w = 39 ∨ w = 40) (hnw : nw = 39 ∨ nw = 40) (out : (Nat → Nat → Int32)) (e : fX6_flowOn n x1 I rv w nw = some out) : mm_T none (d + 3) 96 (mm_ent 96 [(.ref 37), (.int x1)]) (107, I, J, mm_rf rv sp rr w nw) (fun v h => v = none ∧ h = (107, out, J, mm_rf rv sp rr nw w)) := by
  rcases hrv, hw, hnw with rfl | rfl, rfl | rfl, rfl | rfl
  · unfold fX6_flowOn at e
    refine mm_T.seg (f' := (13, [some (.ref 37), some (.int x1), some (.ref 3), none, none], [(.int 0), (.ref 39)])) (h' := (107, I, J, mm_rf 3 sp rr 39 39)) 7 rfl ?_
    refine mm_T.call (t := 344) (as := [(.ref 39), (.int 0)]) (f' := (16, [some (.ref 37), some (.int x1), some (.ref 3), none, none], [])) rfl (t_fill _ 39 8 0 I J (mm_rf 3 sp rr 39 39) rfl rfl) (fun v h hq => ?_)
    obtain ⟨rfl, rfl⟩ := hq
    refine mm_T.seg (f' := (18, [some (.ref 37), some (.int x1), some (.ref 3), some (.int 0), none], [])) (h' := (107, (mf_fill I 39 8 0), J, mm_rf 3 sp rr 39 39)) 2 rfl ?_
    refine mm_T.mask [true, true, true, true, false] ?_
    obtain ⟨o2013, eo2013, e⟩ := mm_bind e
    refine tlX6_flowOn_L18 d _ n x1 0 (mf_fill I 39 8 0) J 3 sp rr 39 39 (Or.inl rfl) (Or.inl rfl) (Or.inl rfl) o2013 eo2013 ?_
    refine mm_T.seg (f' := (99, [some (.ref 37), none, none, some (.ref 39), none], [(.ref 39), (.ref 37)])) (h' := (107, o2013, J, mm_rf 3 sp rr 39 39)) 6 rfl ?_
    refine mm_T.step (f' := (102, [some (.ref 37), none, none, some (.ref 39), none], [])) (h' := (107, o2013, J, mm_rf 3 sp rr 39 39)) (by rw [← mm_rf_w]; rfl) ?_
    refine mm_T.seg (f' := (104, [some (.ref 37), none, none, some (.ref 39), none], [(.ref 39), (.ref 37)])) (h' := (107, o2013, J, mm_rf 3 sp rr 39 39)) 2 rfl ?_
    refine mm_T.step (f' := (107, [some (.ref 37), none, none, some (.ref 39), none], [])) (h' := (107, o2013, J, mm_rf 3 sp rr 39 39)) (by rw [← mm_rf_nw]; rfl) ?_
    cases e
    exact mm_T.ret rfl ⟨rfl, rfl⟩
  · unfold fX6_flowOn at e
    refine mm_T.seg (f' := (13, [some (.ref 37), some (.int x1), some (.ref 3), none, none], [(.int 0), (.ref 40)])) (h' := (107, I, J, mm_rf 3 sp rr 39 40)) 7 rfl ?_
    refine mm_T.call (t := 344) (as := [(.ref 40), (.int 0)]) (f' := (16, [some (.ref 37), some (.int x1), some (.ref 3), none, none], [])) rfl (t_fill _ 40 8 0 I J (mm_rf 3 sp rr 39 40) rfl rfl) (fun v h hq => ?_)
    obtain ⟨rfl, rfl⟩ := hq
    refine mm_T.seg (f' := (18, [some (.ref 37), some (.int x1), some (.ref 3), some (.int 0), none], [])) (h' := (107, (mf_fill I 40 8 0), J, mm_rf 3 sp rr 39 40)) 2 rfl ?_
    refine mm_T.mask [true, true, true, true, false] ?_
    obtain ⟨o2013, eo2013, e⟩ := mm_bind e
    refine tlX6_flowOn_L18 d _ n x1 0 (mf_fill I 40 8 0) J 3 sp rr 39 40 (Or.inl rfl) (Or.inl rfl) (Or.inr rfl) o2013 eo2013 ?_
    refine mm_T.seg (f' := (99, [some (.ref 37), none, none, some (.ref 39), none], [(.ref 40), (.ref 37)])) (h' := (107, o2013, J, mm_rf 3 sp rr 39 40)) 6 rfl ?_
    refine mm_T.step (f' := (102, [some (.ref 37), none, none, some (.ref 39), none], [])) (h' := (107, o2013, J, mm_rf 3 sp rr 40 40)) (by rw [← mm_rf_w]; rfl) ?_
    refine mm_T.seg (f' := (104, [some (.ref 37), none, none, some (.ref 39), none], [(.ref 39), (.ref 37)])) (h' := (107, o2013, J, mm_rf 3 sp rr 40 40)) 2 rfl ?_
    refine mm_T.step (f' := (107, [some (.ref 37), none, none, some (.ref 39), none], [])) (h' := (107, o2013, J, mm_rf 3 sp rr 40 39)) (by rw [← mm_rf_nw]; rfl) ?_
    cases e
    exact mm_T.ret rfl ⟨rfl, rfl⟩
  · unfold fX6_flowOn at e
    refine mm_T.seg (f' := (13, [some (.ref 37), some (.int x1), some (.ref 3), none, none], [(.int 0), (.ref 39)])) (h' := (107, I, J, mm_rf 3 sp rr 40 39)) 7 rfl ?_
    refine mm_T.call (t := 344) (as := [(.ref 39), (.int 0)]) (f' := (16, [some (.ref 37), some (.int x1), some (.ref 3), none, none], [])) rfl (t_fill _ 39 8 0 I J (mm_rf 3 sp rr 40 39) rfl rfl) (fun v h hq => ?_)
    obtain ⟨rfl, rfl⟩ := hq
    refine mm_T.seg (f' := (18, [some (.ref 37), some (.int x1), some (.ref 3), some (.int 0), none], [])) (h' := (107, (mf_fill I 39 8 0), J, mm_rf 3 sp rr 40 39)) 2 rfl ?_
    refine mm_T.mask [true, true, true, true, false] ?_
    obtain ⟨o2013, eo2013, e⟩ := mm_bind e
    refine tlX6_flowOn_L18 d _ n x1 0 (mf_fill I 39 8 0) J 3 sp rr 40 39 (Or.inl rfl) (Or.inr rfl) (Or.inl rfl) o2013 eo2013 ?_
    refine mm_T.seg (f' := (99, [some (.ref 37), none, none, some (.ref 40), none], [(.ref 39), (.ref 37)])) (h' := (107, o2013, J, mm_rf 3 sp rr 40 39)) 6 rfl ?_
    refine mm_T.step (f' := (102, [some (.ref 37), none, none, some (.ref 40), none], [])) (h' := (107, o2013, J, mm_rf 3 sp rr 39 39)) (by rw [← mm_rf_w]; rfl) ?_
    refine mm_T.seg (f' := (104, [some (.ref 37), none, none, some (.ref 40), none], [(.ref 40), (.ref 37)])) (h' := (107, o2013, J, mm_rf 3 sp rr 39 39)) 2 rfl ?_
    refine mm_T.step (f' := (107, [some (.ref 37), none, none, some (.ref 40), none], [])) (h' := (107, o2013, J, mm_rf 3 sp rr 39 40)) (by rw [← mm_rf_nw]; rfl) ?_
    cases e
    exact mm_T.ret rfl ⟨rfl, rfl⟩
  · unfold fX6_flowOn at e
    refine mm_T.seg (f' := (13, [some (.ref 37), some (.int x1), some (.ref 3), none, none], [(.int 0), (.ref 40)])) (h' := (107, I, J, mm_rf 3 sp rr 40 40)) 7 rfl ?_
    refine mm_T.call (t := 344) (as := [(.ref 40), (.int 0)]) (f' := (16, [some (.ref 37), some (.int x1), some (.ref 3), none, none], [])) rfl (t_fill _ 40 8 0 I J (mm_rf 3 sp rr 40 40) rfl rfl) (fun v h hq => ?_)
    obtain ⟨rfl, rfl⟩ := hq
    refine mm_T.seg (f' := (18, [some (.ref 37), some (.int x1), some (.ref 3), some (.int 0), none], [])) (h' := (107, (mf_fill I 40 8 0), J, mm_rf 3 sp rr 40 40)) 2 rfl ?_
    refine mm_T.mask [true, true, true, true, false] ?_
    obtain ⟨o2013, eo2013, e⟩ := mm_bind e
    refine tlX6_flowOn_L18 d _ n x1 0 (mf_fill I 40 8 0) J 3 sp rr 40 40 (Or.inl rfl) (Or.inr rfl) (Or.inr rfl) o2013 eo2013 ?_
    refine mm_T.seg (f' := (99, [some (.ref 37), none, none, some (.ref 40), none], [(.ref 40), (.ref 37)])) (h' := (107, o2013, J, mm_rf 3 sp rr 40 40)) 6 rfl ?_
    refine mm_T.step (f' := (102, [some (.ref 37), none, none, some (.ref 40), none], [])) (h' := (107, o2013, J, mm_rf 3 sp rr 40 40)) (by rw [← mm_rf_w]; rfl) ?_
    refine mm_T.seg (f' := (104, [some (.ref 37), none, none, some (.ref 40), none], [(.ref 40), (.ref 37)])) (h' := (107, o2013, J, mm_rf 3 sp rr 40 40)) 2 rfl ?_
    refine mm_T.step (f' := (107, [some (.ref 37), none, none, some (.ref 40), none], [])) (h' := (107, o2013, J, mm_rf 3 sp rr 40 40)) (by rw [← mm_rf_nw]; rfl) ?_
    cases e
    exact mm_T.ret rfl ⟨rfl, rfl⟩
  · unfold fX6_flowOn at e
    refine mm_T.seg (f' := (13, [some (.ref 37), some (.int x1), some (.ref 19), none, none], [(.int 0), (.ref 39)])) (h' := (107, I, J, mm_rf 19 sp rr 39 39)) 7 rfl ?_
    refine mm_T.call (t := 344) (as := [(.ref 39), (.int 0)]) (f' := (16, [some (.ref 37), some (.int x1), some (.ref 19), none, none], [])) rfl (t_fill _ 39 8 0 I J (mm_rf 19 sp rr 39 39) rfl rfl) (fun v h hq => ?_)
    obtain ⟨rfl, rfl⟩ := hq
    refine mm_T.seg (f' := (18, [some (.ref 37), some (.int x1), some (.ref 19), some (.int 0), none], [])) (h' := (107, (mf_fill I 39 8 0), J, mm_rf 19 sp rr 39 39)) 2 rfl ?_
    refine mm_T.mask [true, true, true, true, false] ?_
    obtain ⟨o2013, eo2013, e⟩ := mm_bind e
    refine tlX6_flowOn_L18 d _ n x1 0 (mf_fill I 39 8 0) J 19 sp rr 39 39 (Or.inr rfl) (Or.inl rfl) (Or.inl rfl) o2013 eo2013 ?_
    refine mm_T.seg (f' := (99, [some (.ref 37), none, none, some (.ref 39), none], [(.ref 39), (.ref 37)])) (h' := (107, o2013, J, mm_rf 19 sp rr 39 39)) 6 rfl ?_
    refine mm_T.step (f' := (102, [some (.ref 37), none, none, some (.ref 39), none], [])) (h' := (107, o2013, J, mm_rf 19 sp rr 39 39)) (by rw [← mm_rf_w]; rfl) ?_
    refine mm_T.seg (f' := (104, [some (.ref 37), none, none, some (.ref 39), none], [(.ref 39), (.ref 37)])) (h' := (107, o2013, J, mm_rf 19 sp rr 39 39)) 2 rfl ?_
    refine mm_T.step (f' := (107, [some (.ref 37), none, none, some (.ref 39), none], [])) (h' := (107, o2013, J, mm_rf 19 sp rr 39 39)) (by rw [← mm_rf_nw]; rfl) ?_
    cases e
    exact mm_T.ret rfl ⟨rfl, rfl⟩
  · unfold fX6_flowOn at e
    refine mm_T.seg (f' := (13, [some (.ref 37), some (.int x1), some (.ref 19), none, none], [(.int 0), (.ref 40)])) (h' := (107, I, J, mm_rf 19 sp rr 39 40)) 7 rfl ?_
    refine mm_T.call (t := 344) (as := [(.ref 40), (.int 0)]) (f' := (16, [some (.ref 37), some (.int x1), some (.ref 19), none, none], [])) rfl (t_fill _ 40 8 0 I J (mm_rf 19 sp rr 39 40) rfl rfl) (fun v h hq => ?_)
    obtain ⟨rfl, rfl⟩ := hq
    refine mm_T.seg (f' := (18, [some (.ref 37), some (.int x1), some (.ref 19), some (.int 0), none], [])) (h' := (107, (mf_fill I 40 8 0), J, mm_rf 19 sp rr 39 40)) 2 rfl ?_
    refine mm_T.mask [true, true, true, true, false] ?_
    obtain ⟨o2013, eo2013, e⟩ := mm_bind e
    refine tlX6_flowOn_L18 d _ n x1 0 (mf_fill I 40 8 0) J 19 sp rr 39 40 (Or.inr rfl) (Or.inl rfl) (Or.inr rfl) o2013 eo2013 ?_
    refine mm_T.seg (f' := (99, [some (.ref 37), none, none, some (.ref 39), none], [(.ref 40), (.ref 37)])) (h' := (107, o2013, J, mm_rf 19 sp rr 39 40)) 6 rfl ?_
    refine mm_T.step (f' := (102, [some (.ref 37), none, none, some (.ref 39), none], [])) (h' := (107, o2013, J, mm_rf 19 sp rr 40 40)) (by rw [← mm_rf_w]; rfl) ?_
    refine mm_T.seg (f' := (104, [some (.ref 37), none, none, some (.ref 39), none], [(.ref 39), (.ref 37)])) (h' := (107, o2013, J, mm_rf 19 sp rr 40 40)) 2 rfl ?_
    refine mm_T.step (f' := (107, [some (.ref 37), none, none, some (.ref 39), none], [])) (h' := (107, o2013, J, mm_rf 19 sp rr 40 39)) (by rw [← mm_rf_nw]; rfl) ?_
    cases e
    exact mm_T.ret rfl ⟨rfl, rfl⟩
  · unfold fX6_flowOn at e
    refine mm_T.seg (f' := (13, [some (.ref 37), some (.int x1), some (.ref 19), none, none], [(.int 0), (.ref 39)])) (h' := (107, I, J, mm_rf 19 sp rr 40 39)) 7 rfl ?_
    refine mm_T.call (t := 344) (as := [(.ref 39), (.int 0)]) (f' := (16, [some (.ref 37), some (.int x1), some (.ref 19), none, none], [])) rfl (t_fill _ 39 8 0 I J (mm_rf 19 sp rr 40 39) rfl rfl) (fun v h hq => ?_)
    obtain ⟨rfl, rfl⟩ := hq
    refine mm_T.seg (f' := (18, [some (.ref 37), some (.int x1), some (.ref 19), some (.int 0), none], [])) (h' := (107, (mf_fill I 39 8 0), J, mm_rf 19 sp rr 40 39)) 2 rfl ?_
    refine mm_T.mask [true, true, true, true, false] ?_
    obtain ⟨o2013, eo2013, e⟩ := mm_bind e
    refine tlX6_flowOn_L18 d _ n x1 0 (mf_fill I 39 8 0) J 19 sp rr 40 39 (Or.inr rfl) (Or.inr rfl) (Or.inl rfl) o2013 eo2013 ?_
    refine mm_T.seg (f' := (99, [some (.ref 37), none, none, some (.ref 40), none], [(.ref 39), (.ref 37)])) (h' := (107, o2013, J, mm_rf 19 sp rr 40 39)) 6 rfl ?_
    refine mm_T.step (f' := (102, [some (.ref 37), none, none, some (.ref 40), none], [])) (h' := (107, o2013, J, mm_rf 19 sp rr 39 39)) (by rw [← mm_rf_w]; rfl) ?_
    refine mm_T.seg (f' := (104, [some (.ref 37), none, none, some (.ref 40), none], [(.ref 40), (.ref 37)])) (h' := (107, o2013, J, mm_rf 19 sp rr 39 39)) 2 rfl ?_
    refine mm_T.step (f' := (107, [some (.ref 37), none, none, some (.ref 40), none], [])) (h' := (107, o2013, J, mm_rf 19 sp rr 39 40)) (by rw [← mm_rf_nw]; rfl) ?_
    cases e
    exact mm_T.ret rfl ⟨rfl, rfl⟩
  · unfold fX6_flowOn at e
    refine mm_T.seg (f' := (13, [some (.ref 37), some (.int x1), some (.ref 19), none, none], [(.int 0), (.ref 40)])) (h' := (107, I, J, mm_rf 19 sp rr 40 40)) 7 rfl ?_
    refine mm_T.call (t := 344) (as := [(.ref 40), (.int 0)]) (f' := (16, [some (.ref 37), some (.int x1), some (.ref 19), none, none], [])) rfl (t_fill _ 40 8 0 I J (mm_rf 19 sp rr 40 40) rfl rfl) (fun v h hq => ?_)
    obtain ⟨rfl, rfl⟩ := hq
    refine mm_T.seg (f' := (18, [some (.ref 37), some (.int x1), some (.ref 19), some (.int 0), none], [])) (h' := (107, (mf_fill I 40 8 0), J, mm_rf 19 sp rr 40 40)) 2 rfl ?_
    refine mm_T.mask [true, true, true, true, false] ?_
    obtain ⟨o2013, eo2013, e⟩ := mm_bind e
    refine tlX6_flowOn_L18 d _ n x1 0 (mf_fill I 40 8 0) J 19 sp rr 40 40 (Or.inr rfl) (Or.inr rfl) (Or.inr rfl) o2013 eo2013 ?_
    refine mm_T.seg (f' := (99, [some (.ref 37), none, none, some (.ref 40), none], [(.ref 40), (.ref 37)])) (h' := (107, o2013, J, mm_rf 19 sp rr 40 40)) 6 rfl ?_
    refine mm_T.step (f' := (102, [some (.ref 37), none, none, some (.ref 40), none], [])) (h' := (107, o2013, J, mm_rf 19 sp rr 40 40)) (by rw [← mm_rf_w]; rfl) ?_
    refine mm_T.seg (f' := (104, [some (.ref 37), none, none, some (.ref 40), none], [(.ref 40), (.ref 37)])) (h' := (107, o2013, J, mm_rf 19 sp rr 40 40)) 2 rfl ?_
    refine mm_T.step (f' := (107, [some (.ref 37), none, none, some (.ref 40), none], [])) (h' := (107, o2013, J, mm_rf 19 sp rr 40 40)) (by rw [← mm_rf_nw]; rfl) ?_
    cases e
    exact mm_T.ret rfl ⟨rfl, rfl⟩
set_option maxRecDepth 100000 in
set_option maxHeartbeats 4000000 in
theorem tlX6_commonPart_L7 (d : Nat) (Q : Option Value → mm_H → Prop) : ∀ (n : Nat) (y2 : Int32) (y3 : Int32) (y4 : Int32) (I : Nat → Nat → Int32) (J : Nat → Nat → Int64) (rv sp rr w nw : Nat), ∀ (out : Int32), fX6_commonPart_L7 n y2 y3 y4 = some out → mm_T none (d + 0) 98 (34, [none, none, some (.int out), none, none, none], []) (107, I, J, mm_rf rv sp rr w nw) Q → mm_T none (d + 0) 98 (7, [none, none, some (.int y2), some (.int y3), some (.int y4), none], []) (107, I, J, mm_rf rv sp rr w nw) Q := by
  intro n
  induction n with
  | zero =>
    intro y2 y3 y4 I J rv sp rr w nw out e k
    rw [fX6_commonPart_L7] at e; cases e
  | succ n ih =>
    intro y2 y3 y4 I J rv sp rr w nw out e k
    rw [fX6_commonPart_L7] at e
    refine mm_T.seg (f' := (11, [none, none, some (.int y2), some (.int y3), some (.int y4), none], [(.int 100), (.int y4)])) (h' := (107, I, J, mm_rf rv sp rr w nw)) 2 rfl ?_
    refine mm_T.br (c := y4 < 100) (a := ((14, [none, none, some (.int y2), some (.int y3), some (.int y4), none], []), (107, I, J, mm_rf rv sp rr w nw))) (b := ((34, [none, none, some (.int y2), some (.int y3), some (.int y4), none], []), (107, I, J, mm_rf rv sp rr w nw))) rfl (fun h2018 => ?_) (fun h2018 => ?_)
    · rw [if_pos h2018] at e
      refine mm_T.seg (f' := (15, [none, none, some (.int y2), some (.int y3), some (.int y4), none], [(.int y3)])) (h' := (107, I, J, mm_rf rv sp rr w nw)) 1 rfl ?_
      refine mm_T.br (c := y3 = 0) (a := ((34, [none, none, some (.int y2), some (.int y3), some (.int y4), none], []), (107, I, J, mm_rf rv sp rr w nw))) (b := ((18, [none, none, some (.int y2), some (.int y3), some (.int y4), none], []), (107, I, J, mm_rf rv sp rr w nw))) rfl (fun h2019 => ?_) (fun h2019 => ?_)
      · rw [if_pos h2019] at e
        cases e
        refine mm_T.mask [false, false, true, false, false, false] ?_
        exact k
      · rw [if_neg h2019] at e
        refine mm_T.seg (f' := (20, [none, none, some (.int y2), some (.int y3), some (.int y4), none], [(.int y3), (.int y2)])) (h' := (107, I, J, mm_rf rv sp rr w nw)) 2 rfl ?_
        by_cases h2020 : y3 = 0
        · rw [if_pos h2020] at e; cases e
        rw [if_neg h2020] at e
        refine mm_T.guard (y := ((21, [none, none, some (.int y2), some (.int y3), some (.int y4), none], [(.int (y2 - y2 / y3 * y3))]), (107, I, J, mm_rf rv sp rr w nw))) rfl h2020 ?_
        refine mm_T.seg (f' := (7, [none, none, some (.int y3), some (.int (y2 - y2 / y3 * y3)), some (.int (y4 + 1)), some (.int (y2 - y2 / y3 * y3))], [])) (h' := (107, I, J, mm_rf rv sp rr w nw)) 7 rfl ?_
        refine mm_T.mask [false, false, true, true, true, false] ?_
        exact ih y3 (y2 - y2 / y3 * y3) (y4 + 1) I J rv sp rr w nw out e k
    · rw [if_neg h2018] at e
      cases e
      refine mm_T.mask [false, false, true, false, false, false] ?_
      exact k
set_option maxRecDepth 100000 in
set_option maxHeartbeats 4000000 in
theorem tX6_commonPart (d n : Nat) (x0 : Int32) (x1 : Int32) (I : Nat → Nat → Int32) (J : Nat → Nat → Int64) (rv sp rr w nw : Nat) (out : Int32) (e : fX6_commonPart n x0 x1 = some out) : mm_T none (d + 0) 98 (mm_ent 98 [(.int x0), (.int x1)]) (107, I, J, mm_rf rv sp rr w nw) (fun v h => v = some (.int out) ∧ h = (107, I, J, mm_rf rv sp rr w nw)) := by
  unfold fX6_commonPart at e
  refine mm_T.seg (f' := (7, [some (.int x0), some (.int x1), some (.int x0), some (.int x1), some (.int 0), none], [])) (h' := (107, I, J, mm_rf rv sp rr w nw)) 6 rfl ?_
  refine mm_T.mask [false, false, true, true, true, false] ?_
  obtain ⟨o2021, eo2021, e⟩ := mm_bind e
  refine tlX6_commonPart_L7 d _ n x0 x1 0 I J rv sp rr w nw o2021 eo2021 ?_
  refine mm_T.seg (f' := (35, [none, none, some (.int o2021), none, none, none], [(.int o2021)])) (h' := (107, I, J, mm_rf rv sp rr w nw)) 1 rfl ?_
  cases e
  exact mm_T.ret rfl ⟨rfl, rfl⟩
set_option maxRecDepth 100000 in
set_option maxHeartbeats 4000000 in
theorem tX7_isBoard (d : Nat) (x1 : Int32) (I : Nat → Nat → Int32) (J : Nat → Nat → Int64) (rv sp rr w nw : Nat) (hrv : rv = 3 ∨ rv = 19) (out : Int32) (e : fX7_isBoard x1 I rv = out) : mm_T none (d + 0) 101 (mm_ent 101 [(.ref 18), (.int x1)]) (107, I, J, mm_rf rv sp rr w nw) (fun v h => v = some (.int out) ∧ h = (107, I, J, mm_rf rv sp rr w nw)) := by
  rcases hrv with rfl | rfl
  · unfold fX7_isBoard at e
    refine mm_T.seg (f' := (1, [some (.ref 18), some (.int x1)], [(.int x1)])) (h' := (107, I, J, mm_rf 3 sp rr w nw)) 1 rfl ?_
    refine mm_T.br (c := x1 < 0) (a := ((19, [some (.ref 18), some (.int x1)], []), (107, I, J, mm_rf 3 sp rr w nw))) (b := ((4, [some (.ref 18), some (.int x1)], []), (107, I, J, mm_rf 3 sp rr w nw))) rfl (fun h2022 => ?_) (fun h2022 => ?_)
    · rw [if_pos h2022] at e
      refine mm_T.seg (f' := (20, [some (.ref 18), some (.int x1)], [(.int 0)])) (h' := (107, I, J, mm_rf 3 sp rr w nw)) 1 rfl ?_
      cases e
      exact mm_T.ret rfl ⟨rfl, rfl⟩
    · rw [if_neg h2022] at e
      refine mm_T.seg (f' := (12, [some (.ref 18), some (.int x1)], [(.int (I 3 4)), (.int x1)])) (h' := (107, I, J, mm_rf 3 sp rr w nw)) 4 rfl ?_
      refine mm_T.br (c := x1 < (I 3 4)) (a := ((15, [some (.ref 18), some (.int x1)], []), (107, I, J, mm_rf 3 sp rr w nw))) (b := ((19, [some (.ref 18), some (.int x1)], []), (107, I, J, mm_rf 3 sp rr w nw))) rfl (fun h2023 => ?_) (fun h2023 => ?_)
      · rw [if_pos h2023] at e
        refine mm_T.seg (f' := (20, [some (.ref 18), some (.int x1)], [(.int 1)])) (h' := (107, I, J, mm_rf 3 sp rr w nw)) 2 rfl ?_
        cases e
        exact mm_T.ret rfl ⟨rfl, rfl⟩
      · rw [if_neg h2023] at e
        refine mm_T.seg (f' := (20, [some (.ref 18), some (.int x1)], [(.int 0)])) (h' := (107, I, J, mm_rf 3 sp rr w nw)) 1 rfl ?_
        cases e
        exact mm_T.ret rfl ⟨rfl, rfl⟩
  · unfold fX7_isBoard at e
    refine mm_T.seg (f' := (1, [some (.ref 18), some (.int x1)], [(.int x1)])) (h' := (107, I, J, mm_rf 19 sp rr w nw)) 1 rfl ?_
    refine mm_T.br (c := x1 < 0) (a := ((19, [some (.ref 18), some (.int x1)], []), (107, I, J, mm_rf 19 sp rr w nw))) (b := ((4, [some (.ref 18), some (.int x1)], []), (107, I, J, mm_rf 19 sp rr w nw))) rfl (fun h2022 => ?_) (fun h2022 => ?_)
    · rw [if_pos h2022] at e
      refine mm_T.seg (f' := (20, [some (.ref 18), some (.int x1)], [(.int 0)])) (h' := (107, I, J, mm_rf 19 sp rr w nw)) 1 rfl ?_
      cases e
      exact mm_T.ret rfl ⟨rfl, rfl⟩
    · rw [if_neg h2022] at e
      refine mm_T.seg (f' := (12, [some (.ref 18), some (.int x1)], [(.int (I 19 4)), (.int x1)])) (h' := (107, I, J, mm_rf 19 sp rr w nw)) 4 rfl ?_
      refine mm_T.br (c := x1 < (I 19 4)) (a := ((15, [some (.ref 18), some (.int x1)], []), (107, I, J, mm_rf 19 sp rr w nw))) (b := ((19, [some (.ref 18), some (.int x1)], []), (107, I, J, mm_rf 19 sp rr w nw))) rfl (fun h2023 => ?_) (fun h2023 => ?_)
      · rw [if_pos h2023] at e
        refine mm_T.seg (f' := (20, [some (.ref 18), some (.int x1)], [(.int 1)])) (h' := (107, I, J, mm_rf 19 sp rr w nw)) 2 rfl ?_
        cases e
        exact mm_T.ret rfl ⟨rfl, rfl⟩
      · rw [if_neg h2023] at e
        refine mm_T.seg (f' := (20, [some (.ref 18), some (.int x1)], [(.int 0)])) (h' := (107, I, J, mm_rf 19 sp rr w nw)) 1 rfl ?_
        cases e
        exact mm_T.ret rfl ⟨rfl, rfl⟩
set_option maxRecDepth 100000 in
set_option maxHeartbeats 4000000 in
theorem tX7_isLoad (d : Nat) (x1 : Int32) (I : Nat → Nat → Int32) (J : Nat → Nat → Int64) (rv sp rr w nw : Nat) (hrv : rv = 3 ∨ rv = 19) (out : Int32) (e : fX7_isLoad x1 I rv = out) : mm_T none (d + 0) 102 (mm_ent 102 [(.ref 18), (.int x1)]) (107, I, J, mm_rf rv sp rr w nw) (fun v h => v = some (.int out) ∧ h = (107, I, J, mm_rf rv sp rr w nw)) := by
  rcases hrv with rfl | rfl
  · unfold fX7_isLoad at e
    refine mm_T.seg (f' := (1, [some (.ref 18), some (.int x1)], [(.int x1)])) (h' := (107, I, J, mm_rf 3 sp rr w nw)) 1 rfl ?_
    refine mm_T.br (c := x1 < 0) (a := ((19, [some (.ref 18), some (.int x1)], []), (107, I, J, mm_rf 3 sp rr w nw))) (b := ((4, [some (.ref 18), some (.int x1)], []), (107, I, J, mm_rf 3 sp rr w nw))) rfl (fun h2024 => ?_) (fun h2024 => ?_)
    · rw [if_pos h2024] at e
      refine mm_T.seg (f' := (20, [some (.ref 18), some (.int x1)], [(.int 0)])) (h' := (107, I, J, mm_rf 3 sp rr w nw)) 1 rfl ?_
      cases e
      exact mm_T.ret rfl ⟨rfl, rfl⟩
    · rw [if_neg h2024] at e
      refine mm_T.seg (f' := (12, [some (.ref 18), some (.int x1)], [(.int (I 3 5)), (.int x1)])) (h' := (107, I, J, mm_rf 3 sp rr w nw)) 4 rfl ?_
      refine mm_T.br (c := x1 < (I 3 5)) (a := ((15, [some (.ref 18), some (.int x1)], []), (107, I, J, mm_rf 3 sp rr w nw))) (b := ((19, [some (.ref 18), some (.int x1)], []), (107, I, J, mm_rf 3 sp rr w nw))) rfl (fun h2025 => ?_) (fun h2025 => ?_)
      · rw [if_pos h2025] at e
        refine mm_T.seg (f' := (20, [some (.ref 18), some (.int x1)], [(.int 1)])) (h' := (107, I, J, mm_rf 3 sp rr w nw)) 2 rfl ?_
        cases e
        exact mm_T.ret rfl ⟨rfl, rfl⟩
      · rw [if_neg h2025] at e
        refine mm_T.seg (f' := (20, [some (.ref 18), some (.int x1)], [(.int 0)])) (h' := (107, I, J, mm_rf 3 sp rr w nw)) 1 rfl ?_
        cases e
        exact mm_T.ret rfl ⟨rfl, rfl⟩
  · unfold fX7_isLoad at e
    refine mm_T.seg (f' := (1, [some (.ref 18), some (.int x1)], [(.int x1)])) (h' := (107, I, J, mm_rf 19 sp rr w nw)) 1 rfl ?_
    refine mm_T.br (c := x1 < 0) (a := ((19, [some (.ref 18), some (.int x1)], []), (107, I, J, mm_rf 19 sp rr w nw))) (b := ((4, [some (.ref 18), some (.int x1)], []), (107, I, J, mm_rf 19 sp rr w nw))) rfl (fun h2024 => ?_) (fun h2024 => ?_)
    · rw [if_pos h2024] at e
      refine mm_T.seg (f' := (20, [some (.ref 18), some (.int x1)], [(.int 0)])) (h' := (107, I, J, mm_rf 19 sp rr w nw)) 1 rfl ?_
      cases e
      exact mm_T.ret rfl ⟨rfl, rfl⟩
    · rw [if_neg h2024] at e
      refine mm_T.seg (f' := (12, [some (.ref 18), some (.int x1)], [(.int (I 19 5)), (.int x1)])) (h' := (107, I, J, mm_rf 19 sp rr w nw)) 4 rfl ?_
      refine mm_T.br (c := x1 < (I 19 5)) (a := ((15, [some (.ref 18), some (.int x1)], []), (107, I, J, mm_rf 19 sp rr w nw))) (b := ((19, [some (.ref 18), some (.int x1)], []), (107, I, J, mm_rf 19 sp rr w nw))) rfl (fun h2025 => ?_) (fun h2025 => ?_)
      · rw [if_pos h2025] at e
        refine mm_T.seg (f' := (20, [some (.ref 18), some (.int x1)], [(.int 1)])) (h' := (107, I, J, mm_rf 19 sp rr w nw)) 2 rfl ?_
        cases e
        exact mm_T.ret rfl ⟨rfl, rfl⟩
      · rw [if_neg h2025] at e
        refine mm_T.seg (f' := (20, [some (.ref 18), some (.int x1)], [(.int 0)])) (h' := (107, I, J, mm_rf 19 sp rr w nw)) 1 rfl ?_
        cases e
        exact mm_T.ret rfl ⟨rfl, rfl⟩
set_option maxRecDepth 100000 in
set_option maxHeartbeats 4000000 in
theorem tX7_set (d : Nat) (x1 : Int32) (x2 : Int32) (x3 : Int32) (I : Nat → Nat → Int32) (J : Nat → Nat → Int64) (rv sp rr w nw : Nat) (out : (Nat → Nat → Int32)) (e : fX7_set x1 x2 x3 I = out) : mm_T none (d + 1) 104 (mm_ent 104 [(.ref 18), (.int x1), (.int x2), (.int x3)]) (107, I, J, mm_rf rv sp rr w nw) (fun v h => v = none ∧ h = (107, out, J, mm_rf rv sp rr w nw)) := by
  unfold fX7_set at e
  refine mm_T.seg (f' := (10, [some (.ref 18), some (.int x1), some (.int x2), some (.int x3)], [(.int x3), (.int ((x1 * 5) + x2)), (.ref 32)])) (h' := (107, I, J, mm_rf rv sp rr w nw)) 8 rfl ?_
  refine mm_T.call (t := 205) (as := [(.ref 32), (.int ((x1 * 5) + x2)), (.int x3)]) (f' := (13, [some (.ref 18), some (.int x1), some (.int x2), some (.int x3)], [])) rfl (t_put _ 32 28 ((x1 * 5) + x2) x3 I J (mm_rf rv sp rr w nw) rfl rfl) (fun v h hq => ?_)
  obtain ⟨rfl, rfl⟩ := hq
  cases e
  exact mm_T.ret rfl ⟨rfl, rfl⟩
set_option maxRecDepth 100000 in
set_option maxHeartbeats 4000000 in
theorem tX7_heatOf (d : Nat) (x1 : Int32) (I : Nat → Nat → Int32) (J : Nat → Nat → Int64) (rv sp rr w nw : Nat) (out : Int32) (e : fX7_heatOf x1 I = out) : mm_T none (d + 2) 107 (mm_ent 107 [(.ref 18), (.int x1)]) (107, I, J, mm_rf rv sp rr w nw) (fun v h => v = some (.int out) ∧ h = (107, I, J, mm_rf rv sp rr w nw)) := by
  unfold fX7_heatOf at e
  refine mm_T.seg (f' := (3, [some (.ref 18), some (.int x1)], [(.int 2), (.int x1), (.ref 18)])) (h' := (107, I, J, mm_rf rv sp rr w nw)) 3 rfl ?_
  refine mm_T.call (t := 103) (as := [(.ref 18), (.int x1), (.int 2)]) (f' := (6, [some (.ref 18), some (.int x1)], [])) rfl (tX7_get (d + 0) x1 2 I J rv sp rr w nw _ rfl) (fun v h hq => ?_)
  obtain ⟨rfl, rfl⟩ := hq
  cases e
  exact mm_T.ret rfl ⟨rfl, rfl⟩
set_option maxRecDepth 100000 in
set_option maxHeartbeats 4000000 in
theorem tX7_setHeat (d : Nat) (x1 : Int32) (x2 : Int32) (I : Nat → Nat → Int32) (J : Nat → Nat → Int64) (rv sp rr w nw : Nat) (out : (Nat → Nat → Int32)) (e : fX7_setHeat x1 x2 I = out) : mm_T none (d + 2) 108 (mm_ent 108 [(.ref 18), (.int x1), (.int x2)]) (107, I, J, mm_rf rv sp rr w nw) (fun v h => v = none ∧ h = (107, out, J, mm_rf rv sp rr w nw)) := by
  unfold fX7_setHeat at e
  refine mm_T.seg (f' := (4, [some (.ref 18), some (.int x1), some (.int x2)], [(.int x2), (.int 2), (.int x1), (.ref 18)])) (h' := (107, I, J, mm_rf rv sp rr w nw)) 4 rfl ?_
  refine mm_T.call (t := 104) (as := [(.ref 18), (.int x1), (.int 2), (.int x2)]) (f' := (7, [some (.ref 18), some (.int x1), some (.int x2)], [])) rfl (tX7_set (d + 0) x1 2 x2 I J rv sp rr w nw _ rfl) (fun v h hq => ?_)
  obtain ⟨rfl, rfl⟩ := hq
  cases e
  exact mm_T.ret rfl ⟨rfl, rfl⟩
set_option maxRecDepth 100000 in
set_option maxHeartbeats 4000000 in
theorem tX7_scorchesOf (d : Nat) (x1 : Int32) (I : Nat → Nat → Int32) (J : Nat → Nat → Int64) (rv sp rr w nw : Nat) (out : Int32) (e : fX7_scorchesOf x1 I = out) : mm_T none (d + 2) 109 (mm_ent 109 [(.ref 18), (.int x1)]) (107, I, J, mm_rf rv sp rr w nw) (fun v h => v = some (.int out) ∧ h = (107, I, J, mm_rf rv sp rr w nw)) := by
  unfold fX7_scorchesOf at e
  refine mm_T.seg (f' := (3, [some (.ref 18), some (.int x1)], [(.int 3), (.int x1), (.ref 18)])) (h' := (107, I, J, mm_rf rv sp rr w nw)) 3 rfl ?_
  refine mm_T.call (t := 103) (as := [(.ref 18), (.int x1), (.int 3)]) (f' := (6, [some (.ref 18), some (.int x1)], [])) rfl (tX7_get (d + 0) x1 3 I J rv sp rr w nw _ rfl) (fun v h hq => ?_)
  obtain ⟨rfl, rfl⟩ := hq
  cases e
  exact mm_T.ret rfl ⟨rfl, rfl⟩
set_option maxRecDepth 100000 in
set_option maxHeartbeats 4000000 in
theorem tX7_strokesOf (d : Nat) (x1 : Int32) (I : Nat → Nat → Int32) (J : Nat → Nat → Int64) (rv sp rr w nw : Nat) (out : Int32) (e : fX7_strokesOf x1 I = out) : mm_T none (d + 2) 110 (mm_ent 110 [(.ref 18), (.int x1)]) (107, I, J, mm_rf rv sp rr w nw) (fun v h => v = some (.int out) ∧ h = (107, I, J, mm_rf rv sp rr w nw)) := by
  unfold fX7_strokesOf at e
  refine mm_T.seg (f' := (3, [some (.ref 18), some (.int x1)], [(.int 4), (.int x1), (.ref 18)])) (h' := (107, I, J, mm_rf rv sp rr w nw)) 3 rfl ?_
  refine mm_T.call (t := 103) (as := [(.ref 18), (.int x1), (.int 4)]) (f' := (6, [some (.ref 18), some (.int x1)], [])) rfl (tX7_get (d + 0) x1 4 I J rv sp rr w nw _ rfl) (fun v h hq => ?_)
  obtain ⟨rfl, rfl⟩ := hq
  cases e
  exact mm_T.ret rfl ⟨rfl, rfl⟩
set_option maxRecDepth 100000 in
set_option maxHeartbeats 4000000 in
theorem tX7_placeOf (d : Nat) (x1 : Int32) (I : Nat → Nat → Int32) (J : Nat → Nat → Int64) (rv sp rr w nw : Nat) (out : Int32) (e : fX7_placeOf x1 I = out) : mm_T none (d + 1) 112 (mm_ent 112 [(.ref 18), (.int x1)]) (107, I, J, mm_rf rv sp rr w nw) (fun v h => v = some (.int out) ∧ h = (107, I, J, mm_rf rv sp rr w nw)) := by
  unfold fX7_placeOf at e
  refine mm_T.seg (f' := (8, [some (.ref 18), some (.int x1)], [(.int (20 + x1)), (.ref 32)])) (h' := (107, I, J, mm_rf rv sp rr w nw)) 5 rfl ?_
  refine mm_T.call (t := 204) (as := [(.ref 32), (.int (20 + x1))]) (f' := (11, [some (.ref 18), some (.int x1)], [])) rfl (t_pick _ 32 28 (20 + x1) I J (mm_rf rv sp rr w nw) rfl rfl) (fun v h hq => ?_)
  obtain ⟨rfl, rfl⟩ := hq
  cases e
  exact mm_T.ret rfl ⟨rfl, rfl⟩
set_option maxRecDepth 100000 in
set_option maxHeartbeats 4000000 in
theorem tX7_setPlace (d : Nat) (x1 : Int32) (x2 : Int32) (I : Nat → Nat → Int32) (J : Nat → Nat → Int64) (rv sp rr w nw : Nat) (out : (Nat → Nat → Int32)) (e : fX7_setPlace x1 x2 I = out) : mm_T none (d + 1) 113 (mm_ent 113 [(.ref 18), (.int x1), (.int x2)]) (107, I, J, mm_rf rv sp rr w nw) (fun v h => v = none ∧ h = (107, out, J, mm_rf rv sp rr w nw)) := by
  unfold fX7_setPlace at e
  refine mm_T.seg (f' := (9, [some (.ref 18), some (.int x1), some (.int x2)], [(.int x2), (.int (20 + x1)), (.ref 32)])) (h' := (107, I, J, mm_rf rv sp rr w nw)) 6 rfl ?_
  refine mm_T.call (t := 205) (as := [(.ref 32), (.int (20 + x1)), (.int x2)]) (f' := (12, [some (.ref 18), some (.int x1), some (.int x2)], [])) rfl (t_put _ 32 28 (20 + x1) x2 I J (mm_rf rv sp rr w nw) rfl rfl) (fun v h hq => ?_)
  obtain ⟨rfl, rfl⟩ := hq
  cases e
  exact mm_T.ret rfl ⟨rfl, rfl⟩
set_option maxRecDepth 100000 in
set_option maxHeartbeats 4000000 in
theorem tX7_seed (d : Nat) (I : Nat → Nat → Int32) (J : Nat → Nat → Int64) (rv sp rr w nw : Nat) (out : Int32) (e : fX7_seed I = out) : mm_T none (d + 1) 114 (mm_ent 114 [(.ref 18)]) (107, I, J, mm_rf rv sp rr w nw) (fun v h => v = some (.int out) ∧ h = (107, I, J, mm_rf rv sp rr w nw)) := by
  unfold fX7_seed at e
  refine mm_T.seg (f' := (6, [some (.ref 18)], [(.int 27), (.ref 32)])) (h' := (107, I, J, mm_rf rv sp rr w nw)) 3 rfl ?_
  refine mm_T.call (t := 204) (as := [(.ref 32), (.int 27)]) (f' := (9, [some (.ref 18)], [])) rfl (t_pick _ 32 28 27 I J (mm_rf rv sp rr w nw) rfl rfl) (fun v h hq => ?_)
  obtain ⟨rfl, rfl⟩ := hq
  cases e
  exact mm_T.ret rfl ⟨rfl, rfl⟩
set_option maxRecDepth 100000 in
set_option maxHeartbeats 4000000 in
theorem tX7_allLoads (d : Nat) (I : Nat → Nat → Int32) (J : Nat → Nat → Int64) (rv sp rr w nw : Nat) (hrv : rv = 3 ∨ rv = 19) (out : Int32) (e : fX7_allLoads I rv = out) : mm_T none (d + 0) 115 (mm_ent 115 [(.ref 18)]) (107, I, J, mm_rf rv sp rr w nw) (fun v h => v = some (.int out) ∧ h = (107, I, J, mm_rf rv sp rr w nw)) := by
  rcases hrv with rfl | rfl
  · unfold fX7_allLoads at e
    refine mm_T.seg (f' := (11, [some (.ref 18)], [(.int (((1 : Int32) <<< ((I 3 5) &&& 31)) - 1))])) (h' := (107, I, J, mm_rf 3 sp rr w nw)) 7 rfl ?_
    cases e
    exact mm_T.ret rfl ⟨rfl, rfl⟩
  · unfold fX7_allLoads at e
    refine mm_T.seg (f' := (11, [some (.ref 18)], [(.int (((1 : Int32) <<< ((I 19 5) &&& 31)) - 1))])) (h' := (107, I, J, mm_rf 19 sp rr w nw)) 7 rfl ?_
    cases e
    exact mm_T.ret rfl ⟨rfl, rfl⟩
set_option maxRecDepth 100000 in
set_option maxHeartbeats 4000000 in
theorem tlX7_loadsAt_L4 (d : Nat) (Q : Option Value → mm_H → Prop) : ∀ (n : Nat) (y1 : Int32) (y2 : Int32) (y3 : Int32) (I : Nat → Nat → Int32) (J : Nat → Nat → Int64) (rv sp rr w nw : Nat), (rv = 3 ∨ rv = 19) → ∀ (out : Int32), fX7_loadsAt_L4 n y1 y2 y3 I rv = some out → mm_T none (d + 2) 116 (36, [none, none, some (.int out), none], []) (107, I, J, mm_rf rv sp rr w nw) Q → mm_T none (d + 2) 116 (4, [some (.ref 18), some (.int y1), some (.int y2), some (.int y3)], []) (107, I, J, mm_rf rv sp rr w nw) Q := by
  intro n
  induction n with
  | zero =>
    intro y1 y2 y3 I J rv sp rr w nw hrv out e k
    rw [fX7_loadsAt_L4] at e; cases e
  | succ n ih =>
    intro y1 y2 y3 I J rv sp rr w nw hrv out e k
    rcases hrv with rfl | rfl
    · rw [fX7_loadsAt_L4] at e
      refine mm_T.seg (f' := (12, [some (.ref 18), some (.int y1), some (.int y2), some (.int y3)], [(.int (I 3 5)), (.int y3)])) (h' := (107, I, J, mm_rf 3 sp rr w nw)) 4 rfl ?_
      refine mm_T.br (c := y3 < (I 3 5)) (a := ((15, [some (.ref 18), some (.int y1), some (.int y2), some (.int y3)], []), (107, I, J, mm_rf 3 sp rr w nw))) (b := ((36, [some (.ref 18), some (.int y1), some (.int y2), some (.int y3)], []), (107, I, J, mm_rf 3 sp rr w nw))) rfl (fun h2028 => ?_) (fun h2028 => ?_)
      · rw [if_pos h2028] at e
        refine mm_T.seg (f' := (17, [some (.ref 18), some (.int y1), some (.int y2), some (.int y3)], [(.int y3), (.ref 18)])) (h' := (107, I, J, mm_rf 3 sp rr w nw)) 2 rfl ?_
        refine mm_T.call (t := 112) (as := [(.ref 18), (.int y3)]) (f' := (20, [some (.ref 18), some (.int y1), some (.int y2), some (.int y3)], [])) rfl (tX7_placeOf (d + 0) y3 I J 3 sp rr w nw _ rfl) (fun v h hq => ?_)
        obtain ⟨rfl, rfl⟩ := hq
        refine mm_T.seg (f' := (21, [some (.ref 18), some (.int y1), some (.int y2), some (.int y3)], [(.int y1), (.int (fX7_placeOf y3 I))])) (h' := (107, I, J, mm_rf 3 sp rr w nw)) 1 rfl ?_
        refine mm_T.br (c := (fX7_placeOf y3 I) = y1) (a := ((24, [some (.ref 18), some (.int y1), some (.int y2), some (.int y3)], []), (107, I, J, mm_rf 3 sp rr w nw))) (b := ((30, [some (.ref 18), some (.int y1), some (.int y2), some (.int y3)], []), (107, I, J, mm_rf 3 sp rr w nw))) rfl (fun h2029 => ?_) (fun h2029 => ?_)
        · rw [if_pos h2029] at e
          refine mm_T.seg (f' := (4, [some (.ref 18), some (.int y1), some (.int (y2 ||| ((1 : Int32) <<< (y3 &&& 31)))), some (.int (y3 + 1))], [])) (h' := (107, I, J, mm_rf 3 sp rr w nw)) 8 rfl ?_
          refine mm_T.mask [true, true, true, true] ?_
          exact ih y1 (y2 ||| ((1 : Int32) <<< (y3 &&& 31))) (y3 + 1) I J 3 sp rr w nw (Or.inl rfl) out e k
        · rw [if_neg h2029] at e
          refine mm_T.seg (f' := (4, [some (.ref 18), some (.int y1), some (.int y2), some (.int (y3 + 1))], [])) (h' := (107, I, J, mm_rf 3 sp rr w nw)) 2 rfl ?_
          refine mm_T.mask [true, true, true, true] ?_
          exact ih y1 y2 (y3 + 1) I J 3 sp rr w nw (Or.inl rfl) out e k
      · rw [if_neg h2028] at e
        cases e
        refine mm_T.mask [false, false, true, false] ?_
        exact k
    · rw [fX7_loadsAt_L4] at e
      refine mm_T.seg (f' := (12, [some (.ref 18), some (.int y1), some (.int y2), some (.int y3)], [(.int (I 19 5)), (.int y3)])) (h' := (107, I, J, mm_rf 19 sp rr w nw)) 4 rfl ?_
      refine mm_T.br (c := y3 < (I 19 5)) (a := ((15, [some (.ref 18), some (.int y1), some (.int y2), some (.int y3)], []), (107, I, J, mm_rf 19 sp rr w nw))) (b := ((36, [some (.ref 18), some (.int y1), some (.int y2), some (.int y3)], []), (107, I, J, mm_rf 19 sp rr w nw))) rfl (fun h2028 => ?_) (fun h2028 => ?_)
      · rw [if_pos h2028] at e
        refine mm_T.seg (f' := (17, [some (.ref 18), some (.int y1), some (.int y2), some (.int y3)], [(.int y3), (.ref 18)])) (h' := (107, I, J, mm_rf 19 sp rr w nw)) 2 rfl ?_
        refine mm_T.call (t := 112) (as := [(.ref 18), (.int y3)]) (f' := (20, [some (.ref 18), some (.int y1), some (.int y2), some (.int y3)], [])) rfl (tX7_placeOf (d + 0) y3 I J 19 sp rr w nw _ rfl) (fun v h hq => ?_)
        obtain ⟨rfl, rfl⟩ := hq
        refine mm_T.seg (f' := (21, [some (.ref 18), some (.int y1), some (.int y2), some (.int y3)], [(.int y1), (.int (fX7_placeOf y3 I))])) (h' := (107, I, J, mm_rf 19 sp rr w nw)) 1 rfl ?_
        refine mm_T.br (c := (fX7_placeOf y3 I) = y1) (a := ((24, [some (.ref 18), some (.int y1), some (.int y2), some (.int y3)], []), (107, I, J, mm_rf 19 sp rr w nw))) (b := ((30, [some (.ref 18), some (.int y1), some (.int y2), some (.int y3)], []), (107, I, J, mm_rf 19 sp rr w nw))) rfl (fun h2029 => ?_) (fun h2029 => ?_)
        · rw [if_pos h2029] at e
          refine mm_T.seg (f' := (4, [some (.ref 18), some (.int y1), some (.int (y2 ||| ((1 : Int32) <<< (y3 &&& 31)))), some (.int (y3 + 1))], [])) (h' := (107, I, J, mm_rf 19 sp rr w nw)) 8 rfl ?_
          refine mm_T.mask [true, true, true, true] ?_
          exact ih y1 (y2 ||| ((1 : Int32) <<< (y3 &&& 31))) (y3 + 1) I J 19 sp rr w nw (Or.inr rfl) out e k
        · rw [if_neg h2029] at e
          refine mm_T.seg (f' := (4, [some (.ref 18), some (.int y1), some (.int y2), some (.int (y3 + 1))], [])) (h' := (107, I, J, mm_rf 19 sp rr w nw)) 2 rfl ?_
          refine mm_T.mask [true, true, true, true] ?_
          exact ih y1 y2 (y3 + 1) I J 19 sp rr w nw (Or.inr rfl) out e k
      · rw [if_neg h2028] at e
        cases e
        refine mm_T.mask [false, false, true, false] ?_
        exact k
set_option maxRecDepth 100000 in
set_option maxHeartbeats 4000000 in
theorem tX7_loadsAt (d n : Nat) (x1 : Int32) (I : Nat → Nat → Int32) (J : Nat → Nat → Int64) (rv sp rr w nw : Nat) (hrv : rv = 3 ∨ rv = 19) (out : Int32) (e : fX7_loadsAt n x1 I rv = some out) : mm_T none (d + 2) 116 (mm_ent 116 [(.ref 18), (.int x1)]) (107, I, J, mm_rf rv sp rr w nw) (fun v h => v = some (.int out) ∧ h = (107, I, J, mm_rf rv sp rr w nw)) := by
  rcases hrv with rfl | rfl
  · unfold fX7_loadsAt at e
    refine mm_T.seg (f' := (4, [some (.ref 18), some (.int x1), some (.int 0), some (.int 0)], [])) (h' := (107, I, J, mm_rf 3 sp rr w nw)) 4 rfl ?_
    refine mm_T.mask [true, true, true, true] ?_
    obtain ⟨o2030, eo2030, e⟩ := mm_bind e
    refine tlX7_loadsAt_L4 d _ n x1 0 0 I J 3 sp rr w nw (Or.inl rfl) o2030 eo2030 ?_
    refine mm_T.seg (f' := (37, [none, none, some (.int o2030), none], [(.int o2030)])) (h' := (107, I, J, mm_rf 3 sp rr w nw)) 1 rfl ?_
    cases e
    exact mm_T.ret rfl ⟨rfl, rfl⟩
  · unfold fX7_loadsAt at e
    refine mm_T.seg (f' := (4, [some (.ref 18), some (.int x1), some (.int 0), some (.int 0)], [])) (h' := (107, I, J, mm_rf 19 sp rr w nw)) 4 rfl ?_
    refine mm_T.mask [true, true, true, true] ?_
    obtain ⟨o2030, eo2030, e⟩ := mm_bind e
    refine tlX7_loadsAt_L4 d _ n x1 0 0 I J 19 sp rr w nw (Or.inr rfl) o2030 eo2030 ?_
    refine mm_T.seg (f' := (37, [none, none, some (.int o2030), none], [(.int o2030)])) (h' := (107, I, J, mm_rf 19 sp rr w nw)) 1 rfl ?_
    cases e
    exact mm_T.ret rfl ⟨rfl, rfl⟩
