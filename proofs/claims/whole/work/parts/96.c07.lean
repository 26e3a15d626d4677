set_option maxRecDepth 100000 in
set_option maxHeartbeats 4000000 in
theorem tlX6_strokesToMeet_L50 (d : Nat) (Q : Option Value → mm_H → Prop) : ∀ (n : Nat) (y3 : Int32) (y4 : Int32) (y5 : Int32) (y6 : Int32) (I : Nat → Nat → Int32) (J : Nat → Nat → Int64) (rv sp rr w nw : Nat), (rv = 3 ∨ rv = 19) → ∀ (out : (Int32 ⊕ (Unit))), fX6_strokesToMeet_L50 n y3 y4 y5 y6 I rv = some out → (∀ (r : Int32), out = .inl r → Q (some (.int r)) (107, I, J, mm_rf rv sp rr w nw)) → (∀ (y : Unit), out = .inr y → mm_T none (d + 3) 94 (132, [none, none, none, none, none, none, none], []) (107, I, J, mm_rf rv sp rr w nw) Q) → mm_T none (d + 3) 94 (50, [some (.ref 37), none, none, some (.int y3), some (.int y4), some (.int y5), some (.int y6)], []) (107, I, J, mm_rf rv sp rr w nw) Q := by
  intro n
  induction n with
  | zero =>
    intro y3 y4 y5 y6 I J rv sp rr w nw hrv out e kr ke
    rw [fX6_strokesToMeet_L50] at e; cases e
  | succ n ih =>
    intro y3 y4 y5 y6 I J rv sp rr w nw hrv out e kr ke
    rcases hrv with rfl | rfl
    · rw [fX6_strokesToMeet_L50] at e
      refine mm_T.seg (f' := (64, [some (.ref 37), none, none, some (.int y3), some (.int y4), some (.int y5), some (.int y6)], [(.int (I 3 1)), (.int (y3 + y6))])) (h' := (107, I, J, mm_rf 3 sp rr w nw)) 7 rfl ?_
      refine mm_T.br (c := (I 3 1) < (y3 + y6)) (a := ((132, [some (.ref 37), none, none, some (.int y3), some (.int y4), some (.int y5), some (.int y6)], []), (107, I, J, mm_rf 3 sp rr w nw))) (b := ((67, [some (.ref 37), none, none, some (.int y3), some (.int y4), some (.int y5), some (.int y6)], []), (107, I, J, mm_rf 3 sp rr w nw))) rfl (fun h2001 => ?_) (fun h2001 => ?_)
      · rw [if_pos h2001] at e
        cases e
        refine mm_T.mask [false, false, false, false, false, false, false] ?_
        exact ke _ rfl
      · rw [if_neg h2001] at e
        refine mm_T.seg (f' := (79, [some (.ref 37), none, none, some (.int y3), some (.int y4), some (.int y5), some (.int y6)], [(.int (((y4 <<< ((1 : Int32) &&& 31)) ||| (y4 >>> ((1 : Int32) &&& 31))) &&& y5))])) (h' := (107, I, J, mm_rf 3 sp rr w nw)) 9 rfl ?_
        refine mm_T.br (c := (((y4 <<< ((1 : Int32) &&& 31)) ||| (y4 >>> ((1 : Int32) &&& 31))) &&& y5) = 0) (a := ((85, [some (.ref 37), none, none, some (.int y3), some (.int y4), some (.int y5), some (.int y6)], []), (107, I, J, mm_rf 3 sp rr w nw))) (b := ((82, [some (.ref 37), none, none, some (.int y3), some (.int y4), some (.int y5), some (.int y6)], []), (107, I, J, mm_rf 3 sp rr w nw))) rfl (fun h2002 => ?_) (fun h2002 => ?_)
        · rw [if_pos h2002] at e
          refine mm_T.seg (f' := (99, [some (.ref 37), none, none, some (.int y3), some (.int y4), some (.int y5), some (.int y6)], [(.int (I 3 1)), (.int (y3 + y6))])) (h' := (107, I, J, mm_rf 3 sp rr w nw)) 7 rfl ?_
          refine mm_T.br (c := (y3 + y6) < (I 3 1)) (a := ((102, [some (.ref 37), none, none, some (.int y3), some (.int y4), some (.int y5), some (.int y6)], []), (107, I, J, mm_rf 3 sp rr w nw))) (b := ((126, [some (.ref 37), none, none, some (.int y3), some (.int y4), some (.int y5), some (.int y6)], []), (107, I, J, mm_rf 3 sp rr w nw))) rfl (fun h2003 => ?_) (fun h2003 => ?_)
          · rw [if_pos h2003] at e
            refine mm_T.seg (f' := (109, [some (.ref 37), none, none, some (.int y3), some (.int y4), some (.int y5), some (.int y6)], [(.int (y3 + y6)), (.int y4), (.ref 37)])) (h' := (107, I, J, mm_rf 3 sp rr w nw)) 5 rfl ?_
            obtain ⟨o2004, eo2004, e⟩ := mm_bind e
            refine mm_T.call (t := 84) (as := [(.ref 37), (.int y4), (.int (y3 + y6))]) (f' := (112, [some (.ref 37), none, none, some (.int y3), some (.int y4), some (.int y5), some (.int y6)], [])) rfl (tX6_spread (d + 0) n y4 (y3 + y6) I J 3 sp rr w nw (Or.inl rfl) o2004 eo2004) (fun v h hq => ?_)
            obtain ⟨rfl, rfl⟩ := hq
            refine mm_T.seg (f' := (121, [some (.ref 37), none, none, some (.int y3), some (.int o2004), some (.int y5), some (.int y6)], [(.int (y3 + y6)), (.int y5), (.ref 37)])) (h' := (107, I, J, mm_rf 3 sp rr w nw)) 6 rfl ?_
            obtain ⟨o2005, eo2005, e⟩ := mm_bind e
            refine mm_T.call (t := 84) (as := [(.ref 37), (.int y5), (.int (y3 + y6))]) (f' := (124, [some (.ref 37), none, none, some (.int y3), some (.int o2004), some (.int y5), some (.int y6)], [])) rfl (tX6_spread (d + 0) n y5 (y3 + y6) I J 3 sp rr w nw (Or.inl rfl) o2005 eo2005) (fun v h hq => ?_)
            obtain ⟨rfl, rfl⟩ := hq
            refine mm_T.seg (f' := (50, [some (.ref 37), none, none, some (.int y3), some (.int o2004), some (.int o2005), some (.int (y6 + 1))], [])) (h' := (107, I, J, mm_rf 3 sp rr w nw)) 3 rfl ?_
            refine mm_T.mask [true, false, false, true, true, true, true] ?_
            exact ih y3 o2004 o2005 (y6 + 1) I J 3 sp rr w nw (Or.inl rfl) out e kr ke
          · rw [if_neg h2003] at e
            refine mm_T.seg (f' := (50, [some (.ref 37), none, none, some (.int y3), some (.int y4), some (.int y5), some (.int (y6 + 1))], [])) (h' := (107, I, J, mm_rf 3 sp rr w nw)) 2 rfl ?_
            refine mm_T.mask [true, false, false, true, true, true, true] ?_
            exact ih y3 y4 y5 (y6 + 1) I J 3 sp rr w nw (Or.inl rfl) out e kr ke
        · rw [if_neg h2002] at e
          refine mm_T.seg (f' := (84, [some (.ref 37), none, none, some (.int y3), some (.int y4), some (.int y5), some (.int y6)], [(.int y6)])) (h' := (107, I, J, mm_rf 3 sp rr w nw)) 1 rfl ?_
          cases e
          exact mm_T.ret rfl (kr _ rfl)
    · rw [fX6_strokesToMeet_L50] at e
      refine mm_T.seg (f' := (64, [some (.ref 37), none, none, some (.int y3), some (.int y4), some (.int y5), some (.int y6)], [(.int (I 19 1)), (.int (y3 + y6))])) (h' := (107, I, J, mm_rf 19 sp rr w nw)) 7 rfl ?_
      refine mm_T.br (c := (I 19 1) < (y3 + y6)) (a := ((132, [some (.ref 37), none, none, some (.int y3), some (.int y4), some (.int y5), some (.int y6)], []), (107, I, J, mm_rf 19 sp rr w nw))) (b := ((67, [some (.ref 37), none, none, some (.int y3), some (.int y4), some (.int y5), some (.int y6)], []), (107, I, J, mm_rf 19 sp rr w nw))) rfl (fun h2001 => ?_) (fun h2001 => ?_)
      · rw [if_pos h2001] at e
        cases e
        refine mm_T.mask [false, false, false, false, false, false, false] ?_
        exact ke _ rfl
      · rw [if_neg h2001] at e
        refine mm_T.seg (f' := (79, [some (.ref 37), none, none, some (.int y3), some (.int y4), some (.int y5), some (.int y6)], [(.int (((y4 <<< ((1 : Int32) &&& 31)) ||| (y4 >>> ((1 : Int32) &&& 31))) &&& y5))])) (h' := (107, I, J, mm_rf 19 sp rr w nw)) 9 rfl ?_
        refine mm_T.br (c := (((y4 <<< ((1 : Int32) &&& 31)) ||| (y4 >>> ((1 : Int32) &&& 31))) &&& y5) = 0) (a := ((85, [some (.ref 37), none, none, some (.int y3), some (.int y4), some (.int y5), some (.int y6)], []), (107, I, J, mm_rf 19 sp rr w nw))) (b := ((82, [some (.ref 37), none, none, some (.int y3), some (.int y4), some (.int y5), some (.int y6)], []), (107, I, J, mm_rf 19 sp rr w nw))) rfl (fun h2002 => ?_) (fun h2002 => ?_)
        · rw [if_pos h2002] at e
          refine mm_T.seg (f' := (99, [some (.ref 37), none, none, some (.int y3), some (.int y4), some (.int y5), some (.int y6)], [(.int (I 19 1)), (.int (y3 + y6))])) (h' := (107, I, J, mm_rf 19 sp rr w nw)) 7 rfl ?_
          refine mm_T.br (c := (y3 + y6) < (I 19 1)) (a := ((102, [some (.ref 37), none, none, some (.int y3), some (.int y4), some (.int y5), some (.int y6)], []), (107, I, J, mm_rf 19 sp rr w nw))) (b := ((126, [some (.ref 37), none, none, some (.int y3), some (.int y4), some (.int y5), some (.int y6)], []), (107, I, J, mm_rf 19 sp rr w nw))) rfl (fun h2003 => ?_) (fun h2003 => ?_)
          · rw [if_pos h2003] at e
            refine mm_T.seg (f' := (109, [some (.ref 37), none, none, some (.int y3), some (.int y4), some (.int y5), some (.int y6)], [(.int (y3 + y6)), (.int y4), (.ref 37)])) (h' := (107, I, J, mm_rf 19 sp rr w nw)) 5 rfl ?_
            obtain ⟨o2004, eo2004, e⟩ := mm_bind e
            refine mm_T.call (t := 84) (as := [(.ref 37), (.int y4), (.int (y3 + y6))]) (f' := (112, [some (.ref 37), none, none, some (.int y3), some (.int y4), some (.int y5), some (.int y6)], [])) rfl (tX6_spread (d + 0) n y4 (y3 + y6) I J 19 sp rr w nw (Or.inr rfl) o2004 eo2004) (fun v h hq => ?_)
            obtain ⟨rfl, rfl⟩ := hq
            refine mm_T.seg (f' := (121, [some (.ref 37), none, none, some (.int y3), some (.int o2004), some (.int y5), some (.int y6)], [(.int (y3 + y6)), (.int y5), (.ref 37)])) (h' := (107, I, J, mm_rf 19 sp rr w nw)) 6 rfl ?_
            obtain ⟨o2005, eo2005, e⟩ := mm_bind e
            refine mm_T.call (t := 84) (as := [(.ref 37), (.int y5), (.int (y3 + y6))]) (f' := (124, [some (.ref 37), none, none, some (.int y3), some (.int o2004), some (.int y5), some (.int y6)], [])) rfl (tX6_spread (d + 0) n y5 (y3 + y6) I J 19 sp rr w nw (Or.inr rfl) o2005 eo2005) (fun v h hq => ?_)
            obtain ⟨rfl, rfl⟩ := hq
            refine mm_T.seg (f' := (50, [some (.ref 37), none, none, some (.int y3), some (.int o2004), some (.int o2005), some (.int (y6 + 1))], [])) (h' := (107, I, J, mm_rf 19 sp rr w nw)) 3 rfl ?_
            refine mm_T.mask [true, false, false, true, true, true, true] ?_
            exact ih y3 o2004 o2005 (y6 + 1) I J 19 sp rr w nw (Or.inr rfl) out e kr ke
          · rw [if_neg h2003] at e
            refine mm_T.seg (f' := (50, [some (.ref 37), none, none, some (.int y3), some (.int y4), some (.int y5), some (.int (y6 + 1))], [])) (h' := (107, I, J, mm_rf 19 sp rr w nw)) 2 rfl ?_
            refine mm_T.mask [true, false, false, true, true, true, true] ?_
            exact ih y3 y4 y5 (y6 + 1) I J 19 sp rr w nw (Or.inr rfl) out e kr ke
        · rw [if_neg h2002] at e
          refine mm_T.seg (f' := (84, [some (.ref 37), none, none, some (.int y3), some (.int y4), some (.int y5), some (.int y6)], [(.int y6)])) (h' := (107, I, J, mm_rf 19 sp rr w nw)) 1 rfl ?_
          cases e
          exact mm_T.ret rfl (kr _ rfl)
set_option maxRecDepth 100000 in
set_option maxHeartbeats 4000000 in
theorem tX6_strokesToMeet (d n : Nat) (x1 : Int32) (x2 : Int32) (I : Nat → Nat → Int32) (J : Nat → Nat → Int64) (rv sp rr w nw : Nat) (hrv : rv = 3 ∨ rv = 19) (out : Int32) (e : fX6_strokesToMeet n x1 x2 I rv = some out) : mm_T none (d + 3) 94 (mm_ent 94 [(.ref 37), (.int x1), (.int x2)]) (107, I, J, mm_rf rv sp rr w nw) (fun v h => v = some (.int out) ∧ h = (107, I, J, mm_rf rv sp rr w nw)) := by
  rcases hrv with rfl | rfl
  · unfold fX6_strokesToMeet at e
    refine mm_T.seg (f' := (5, [some (.ref 37), some (.int x1), some (.int x2), none, none, none, none], [(.int x1), (.ref 18)])) (h' := (107, I, J, mm_rf 3 sp rr w nw)) 3 rfl ?_
    refine mm_T.call (t := 106) (as := [(.ref 18), (.int x1)]) (f' := (8, [some (.ref 37), some (.int x1), some (.int x2), none, none, none, none], [])) rfl (tX7_rowOf (d + 0) x1 I J 3 sp rr w nw _ rfl) (fun v h hq => ?_)
    obtain ⟨rfl, rfl⟩ := hq
    refine mm_T.seg (f' := (15, [some (.ref 37), some (.int x1), some (.int x2), some (.int (fX7_rowOf x1 I)), none, none, none], [(.int x2), (.ref 18), (.int (fX7_rowOf x1 I))])) (h' := (107, I, J, mm_rf 3 sp rr w nw)) 5 rfl ?_
    refine mm_T.call (t := 106) (as := [(.ref 18), (.int x2)]) (f' := (18, [some (.ref 37), some (.int x1), some (.int x2), some (.int (fX7_rowOf x1 I)), none, none, none], [(.int (fX7_rowOf x1 I))])) rfl (tX7_rowOf (d + 0) x2 I J 3 sp rr w nw _ rfl) (fun v h hq => ?_)
    obtain ⟨rfl, rfl⟩ := hq
    refine mm_T.br (c := (fX7_rowOf x1 I) = (fX7_rowOf x2 I)) (a := ((23, [some (.ref 37), some (.int x1), some (.int x2), some (.int (fX7_rowOf x1 I)), none, none, none], []), (107, I, J, mm_rf 3 sp rr w nw))) (b := ((21, [some (.ref 37), some (.int x1), some (.int x2), some (.int (fX7_rowOf x1 I)), none, none, none], []), (107, I, J, mm_rf 3 sp rr w nw))) rfl (fun h1995 => ?_) (fun h1995 => ?_)
    · rw [if_pos h1995] at e
      refine mm_T.seg (f' := (29, [some (.ref 37), some (.int x1), some (.int x2), some (.int (fX7_rowOf x1 I)), none, none, none], [(.int x1), (.ref 18), (.int 1)])) (h' := (107, I, J, mm_rf 3 sp rr w nw)) 4 rfl ?_
      refine mm_T.call (t := 105) (as := [(.ref 18), (.int x1)]) (f' := (32, [some (.ref 37), some (.int x1), some (.int x2), some (.int (fX7_rowOf x1 I)), none, none, none], [(.int 1)])) rfl (tX7_columnOf (d + 0) x1 I J 3 sp rr w nw _ rfl) (fun v h hq => ?_)
      obtain ⟨rfl, rfl⟩ := hq
      refine mm_T.seg (f' := (41, [some (.ref 37), some (.int x1), some (.int x2), some (.int (fX7_rowOf x1 I)), some (.int ((1 : Int32) <<< ((fX7_columnOf x1 I) &&& 31))), none, none], [(.int x2), (.ref 18), (.int 1)])) (h' := (107, I, J, mm_rf 3 sp rr w nw)) 6 rfl ?_
      refine mm_T.call (t := 105) (as := [(.ref 18), (.int x2)]) (f' := (44, [some (.ref 37), some (.int x1), some (.int x2), some (.int (fX7_rowOf x1 I)), some (.int ((1 : Int32) <<< ((fX7_columnOf x1 I) &&& 31))), none, none], [(.int 1)])) rfl (tX7_columnOf (d + 0) x2 I J 3 sp rr w nw _ rfl) (fun v h hq => ?_)
      obtain ⟨rfl, rfl⟩ := hq
      refine mm_T.seg (f' := (50, [some (.ref 37), some (.int x1), some (.int x2), some (.int (fX7_rowOf x1 I)), some (.int ((1 : Int32) <<< ((fX7_columnOf x1 I) &&& 31))), some (.int ((1 : Int32) <<< ((fX7_columnOf x2 I) &&& 31))), some (.int 0)], [])) (h' := (107, I, J, mm_rf 3 sp rr w nw)) 4 rfl ?_
      refine mm_T.mask [true, false, false, true, true, true, true] ?_
      obtain ⟨o2006, eo2006, e⟩ := mm_bind e
      rcases o2006 with va2007 | vb2007
      · cases e
        refine tlX6_strokesToMeet_L50 d _ n (fX7_rowOf x1 I) ((1 : Int32) <<< ((fX7_columnOf x1 I) &&& 31)) ((1 : Int32) <<< ((fX7_columnOf x2 I) &&& 31)) 0 I J 3 sp rr w nw (Or.inl rfl) _ eo2006 (fun z hz => ?_) (fun z hz => ?_)
        · cases hz; exact ⟨rfl, rfl⟩
        · cases hz
      · refine tlX6_strokesToMeet_L50 d _ n (fX7_rowOf x1 I) ((1 : Int32) <<< ((fX7_columnOf x1 I) &&& 31)) ((1 : Int32) <<< ((fX7_columnOf x2 I) &&& 31)) 0 I J 3 sp rr w nw (Or.inl rfl) (.inr vb2007) eo2006 (fun z hz => ?_) (fun z hz => ?_)
        · cases hz
        · cases hz
          refine mm_T.seg (f' := (133, [none, none, none, none, none, none, none], [(.int (-1))])) (h' := (107, I, J, mm_rf 3 sp rr w nw)) 1 rfl ?_
          cases e
          exact mm_T.ret rfl ⟨rfl, rfl⟩
    · rw [if_neg h1995] at e
      refine mm_T.seg (f' := (22, [some (.ref 37), some (.int x1), some (.int x2), some (.int (fX7_rowOf x1 I)), none, none, none], [(.int (-1))])) (h' := (107, I, J, mm_rf 3 sp rr w nw)) 1 rfl ?_
      cases e
      exact mm_T.ret rfl ⟨rfl, rfl⟩
  · unfold fX6_strokesToMeet at e
    refine mm_T.seg (f' := (5, [some (.ref 37), some (.int x1), some (.int x2), none, none, none, none], [(.int x1), (.ref 18)])) (h' := (107, I, J, mm_rf 19 sp rr w nw)) 3 rfl ?_
    refine mm_T.call (t := 106) (as := [(.ref 18), (.int x1)]) (f' := (8, [some (.ref 37), some (.int x1), some (.int x2), none, none, none, none], [])) rfl (tX7_rowOf (d + 0) x1 I J 19 sp rr w nw _ rfl) (fun v h hq => ?_)
    obtain ⟨rfl, rfl⟩ := hq
    refine mm_T.seg (f' := (15, [some (.ref 37), some (.int x1), some (.int x2), some (.int (fX7_rowOf x1 I)), none, none, none], [(.int x2), (.ref 18), (.int (fX7_rowOf x1 I))])) (h' := (107, I, J, mm_rf 19 sp rr w nw)) 5 rfl ?_
    refine mm_T.call (t := 106) (as := [(.ref 18), (.int x2)]) (f' := (18, [some (.ref 37), some (.int x1), some (.int x2), some (.int (fX7_rowOf x1 I)), none, none, none], [(.int (fX7_rowOf x1 I))])) rfl (tX7_rowOf (d + 0) x2 I J 19 sp rr w nw _ rfl) (fun v h hq => ?_)
    obtain ⟨rfl, rfl⟩ := hq
    refine mm_T.br (c := (fX7_rowOf x1 I) = (fX7_rowOf x2 I)) (a := ((23, [some (.ref 37), some (.int x1), some (.int x2), some (.int (fX7_rowOf x1 I)), none, none, none], []), (107, I, J, mm_rf 19 sp rr w nw))) (b := ((21, [some (.ref 37), some (.int x1), some (.int x2), some (.int (fX7_rowOf x1 I)), none, none, none], []), (107, I, J, mm_rf 19 sp rr w nw))) rfl (fun h1995 => ?_) (fun h1995 => ?_)
    · rw [if_pos h1995] at e
      refine mm_T.seg (f' := (29, [some (.ref 37), some (.int x1), some (.int x2), some (.int (fX7_rowOf x1 I)), none, none, none], [(.int x1), (.ref 18), (.int 1)])) (h' := (107, I, J, mm_rf 19 sp rr w nw)) 4 rfl ?_
      refine mm_T.call (t := 105) (as := [(.ref 18), (.int x1)]) (f' := (32, [some (.ref 37), some (.int x1), some (.int x2), some (.int (fX7_rowOf x1 I)), none, none, none], [(.int 1)])) rfl (tX7_columnOf (d + 0) x1 I J 19 sp rr w nw _ rfl) (fun v h hq => ?_)
      obtain ⟨rfl, rfl⟩ := hq
      refine mm_T.seg (f' := (41, [some (.ref 37), some (.int x1), some (.int x2), some (.int (fX7_rowOf x1 I)), some (.int ((1 : Int32) <<< ((fX7_columnOf x1 I) &&& 31))), none, none], [(.int x2), (.ref 18), (.int 1)])) (h' := (107, I, J, mm_rf 19 sp rr w nw)) 6 rfl ?_
      refine mm_T.call (t := 105) (as := [(.ref 18), (.int x2)]) (f' := (44, [some (.ref 37), some (.int x1), some (.int x2), some (.int (fX7_rowOf x1 I)), some (.int ((1 : Int32) <<< ((fX7_columnOf x1 I) &&& 31))), none, none], [(.int 1)])) rfl (tX7_columnOf (d + 0) x2 I J 19 sp rr w nw _ rfl) (fun v h hq => ?_)
      obtain ⟨rfl, rfl⟩ := hq
      refine mm_T.seg (f' := (50, [some (.ref 37), some (.int x1), some (.int x2), some (.int (fX7_rowOf x1 I)), some (.int ((1 : Int32) <<< ((fX7_columnOf x1 I) &&& 31))), some (.int ((1 : Int32) <<< ((fX7_columnOf x2 I) &&& 31))), some (.int 0)], [])) (h' := (107, I, J, mm_rf 19 sp rr w nw)) 4 rfl ?_
      refine mm_T.mask [true, false, false, true, true, true, true] ?_
      obtain ⟨o2006, eo2006, e⟩ := mm_bind e
      rcases o2006 with va2007 | vb2007
      · cases e
        refine tlX6_strokesToMeet_L50 d _ n (fX7_rowOf x1 I) ((1 : Int32) <<< ((fX7_columnOf x1 I) &&& 31)) ((1 : Int32) <<< ((fX7_columnOf x2 I) &&& 31)) 0 I J 19 sp rr w nw (Or.inr rfl) _ eo2006 (fun z hz => ?_) (fun z hz => ?_)
        · cases hz; exact ⟨rfl, rfl⟩
        · cases hz
      · refine tlX6_strokesToMeet_L50 d _ n (fX7_rowOf x1 I) ((1 : Int32) <<< ((fX7_columnOf x1 I) &&& 31)) ((1 : Int32) <<< ((fX7_columnOf x2 I) &&& 31)) 0 I J 19 sp rr w nw (Or.inr rfl) (.inr vb2007) eo2006 (fun z hz => ?_) (fun z hz => ?_)
        · cases hz
        · cases hz
          refine mm_T.seg (f' := (133, [none, none, none, none, none, none, none], [(.int (-1))])) (h' := (107, I, J, mm_rf 19 sp rr w nw)) 1 rfl ?_
          cases e
          exact mm_T.ret rfl ⟨rfl, rfl⟩
    · rw [if_neg h1995] at e
      refine mm_T.seg (f' := (22, [some (.ref 37), some (.int x1), some (.int x2), some (.int (fX7_rowOf x1 I)), none, none, none], [(.int (-1))])) (h' := (107, I, J, mm_rf 19 sp rr w nw)) 1 rfl ?_
      cases e
      exact mm_T.ret rfl ⟨rfl, rfl⟩
set_option maxRecDepth 100000 in
set_option maxHeartbeats 4000000 in
theorem tX7_strokesLeft (d : Nat) (x1 : Int32) (I : Nat → Nat → Int32) (J : Nat → Nat → Int64) (rv sp rr w nw : Nat) (hrv : rv = 3 ∨ rv = 19) (out : Int32) (e : fX7_strokesLeft x1 I rv = out) : mm_T none (d + 3) 111 (mm_ent 111 [(.ref 18), (.int x1)]) (107, I, J, mm_rf rv sp rr w nw) (fun v h => v = some (.int out) ∧ h = (107, I, J, mm_rf rv sp rr w nw)) := by
  rcases hrv with rfl | rfl
  · unfold fX7_strokesLeft at e
    refine mm_T.seg (f' := (9, [some (.ref 18), some (.int x1)], [(.int x1), (.ref 18), (.int (I 3 1))])) (h' := (107, I, J, mm_rf 3 sp rr w nw)) 5 rfl ?_
    refine mm_T.call (t := 106) (as := [(.ref 18), (.int x1)]) (f' := (12, [some (.ref 18), some (.int x1)], [(.int (I 3 1))])) rfl (tX7_rowOf (d + 0) x1 I J 3 sp rr w nw _ rfl) (fun v h hq => ?_)
    obtain ⟨rfl, rfl⟩ := hq
    refine mm_T.seg (f' := (13, [some (.ref 18), some (.int x1)], [(.int ((I 3 1) - (fX7_rowOf x1 I)))])) (h' := (107, I, J, mm_rf 3 sp rr w nw)) 1 rfl ?_
    cases e
    exact mm_T.ret rfl ⟨rfl, rfl⟩
  · unfold fX7_strokesLeft at e
    refine mm_T.seg (f' := (9, [some (.ref 18), some (.int x1)], [(.int x1), (.ref 18), (.int (I 19 1))])) (h' := (107, I, J, mm_rf 19 sp rr w nw)) 5 rfl ?_
    refine mm_T.call (t := 106) (as := [(.ref 18), (.int x1)]) (f' := (12, [some (.ref 18), some (.int x1)], [(.int (I 19 1))])) rfl (tX7_rowOf (d + 0) x1 I J 19 sp rr w nw _ rfl) (fun v h hq => ?_)
    obtain ⟨rfl, rfl⟩ := hq
    refine mm_T.seg (f' := (13, [some (.ref 18), some (.int x1)], [(.int ((I 19 1) - (fX7_rowOf x1 I)))])) (h' := (107, I, J, mm_rf 19 sp rr w nw)) 1 rfl ?_
    cases e
    exact mm_T.ret rfl ⟨rfl, rfl⟩
set_option maxRecDepth 100000 in
set_option maxHeartbeats 4000000 in
theorem tX6_flowTo (d : Nat) (x1 : Int32) (x2 : Int32) (x3 : Int32) (I : Nat → Nat → Int32) (J : Nat → Nat → Int64) (rv sp rr w nw : Nat) (hrv : rv = 3 ∨ rv = 19) (hnw : nw = 39 ∨ nw = 40) (out : (Nat → Nat → Int32)) (e : fX6_flowTo x1 x2 x3 I rv nw = out) : mm_T none (d + 2) 97 (mm_ent 97 [(.ref 37), (.int x1), (.int x2), (.int x3)]) (107, I, J, mm_rf rv sp rr w nw) (fun v h => v = none ∧ h = (107, out, J, mm_rf rv sp rr w nw)) := by
  rcases hrv, hnw with ⟨rfl | rfl, rfl | rfl⟩
  · unfold fX6_flowTo at e
    refine mm_T.seg (f' := (9, [some (.ref 37), some (.int x1), some (.int x2), some (.int x3)], [(.int x2), (.int x1), (.ref 3)])) (h' := (107, I, J, mm_rf 3 sp rr w 39)) 5 rfl ?_
    refine mm_T.call (t := 69) (as := [(.ref 3), (.int x1), (.int x2)]) (f' := (12, [some (.ref 37), some (.int x1), some (.int x2), some (.int x3)], [])) rfl (tX5_ironAt (d + 0) x1 x2 3 I J 3 sp rr w 39 (Or.inl rfl) _ rfl) (fun v h hq => ?_)
    obtain ⟨rfl, rfl⟩ := hq
    refine mm_T.br (c := (fX5_ironAt x1 x2 3 I) = 0) (a := ((15, [some (.ref 37), some (.int x1), some (.int x2), some (.int x3)], []), (107, I, J, mm_rf 3 sp rr w 39))) (b := ((33, [some (.ref 37), some (.int x1), some (.int x2), some (.int x3)], []), (107, I, J, mm_rf 3 sp rr w 39))) rfl (fun h2011 => ?_) (fun h2011 => ?_)
    · rw [if_pos h2011] at e
      refine mm_T.seg (f' := (25, [some (.ref 37), some (.int x1), some (.int x2), some (.int x3)], [(.int x1), (.ref 39), (.int x1), (.ref 39)])) (h' := (107, I, J, mm_rf 3 sp rr w 39)) 6 rfl ?_
      refine mm_T.call (t := 204) (as := [(.ref 39), (.int x1)]) (f' := (28, [some (.ref 37), some (.int x1), some (.int x2), some (.int x3)], [(.int x1), (.ref 39)])) rfl (t_pick _ 39 8 x1 I J (mm_rf 3 sp rr w 39) rfl rfl) (fun v h hq => ?_)
      obtain ⟨rfl, rfl⟩ := hq
      refine mm_T.seg (f' := (30, [some (.ref 37), some (.int x1), some (.int x2), some (.int x3)], [(.int ((mf_pick I 39 8 x1) + x3)), (.int x1), (.ref 39)])) (h' := (107, I, J, mm_rf 3 sp rr w 39)) 2 rfl ?_
      refine mm_T.call (t := 205) (as := [(.ref 39), (.int x1), (.int ((mf_pick I 39 8 x1) + x3))]) (f' := (33, [some (.ref 37), some (.int x1), some (.int x2), some (.int x3)], [])) rfl (t_put _ 39 8 x1 ((mf_pick I 39 8 x1) + x3) I J (mm_rf 3 sp rr w 39) rfl rfl) (fun v h hq => ?_)
      obtain ⟨rfl, rfl⟩ := hq
      cases e
      exact mm_T.ret rfl ⟨rfl, rfl⟩
    · rw [if_neg h2011] at e
      cases e
      exact mm_T.ret rfl ⟨rfl, rfl⟩
  · unfold fX6_flowTo at e
    refine mm_T.seg (f' := (9, [some (.ref 37), some (.int x1), some (.int x2), some (.int x3)], [(.int x2), (.int x1), (.ref 3)])) (h' := (107, I, J, mm_rf 3 sp rr w 40)) 5 rfl ?_
    refine mm_T.call (t := 69) (as := [(.ref 3), (.int x1), (.int x2)]) (f' := (12, [some (.ref 37), some (.int x1), some (.int x2), some (.int x3)], [])) rfl (tX5_ironAt (d + 0) x1 x2 3 I J 3 sp rr w 40 (Or.inl rfl) _ rfl) (fun v h hq => ?_)
    obtain ⟨rfl, rfl⟩ := hq
    refine mm_T.br (c := (fX5_ironAt x1 x2 3 I) = 0) (a := ((15, [some (.ref 37), some (.int x1), some (.int x2), some (.int x3)], []), (107, I, J, mm_rf 3 sp rr w 40))) (b := ((33, [some (.ref 37), some (.int x1), some (.int x2), some (.int x3)], []), (107, I, J, mm_rf 3 sp rr w 40))) rfl (fun h2011 => ?_) (fun h2011 => ?_)
    · rw [if_pos h2011] at e
      refine mm_T.seg (f' := (25, [some (.ref 37), some (.int x1), some (.int x2), some (.int x3)], [(.int x1), (.ref 40), (.int x1), (.ref 40)])) (h' := (107, I, J, mm_rf 3 sp rr w 40)) 6 rfl ?_
      refine mm_T.call (t := 204) (as := [(.ref 40), (.int x1)]) (f' := (28, [some (.ref 37), some (.int x1), some (.int x2), some (.int x3)], [(.int x1), (.ref 40)])) rfl (t_pick _ 40 8 x1 I J (mm_rf 3 sp rr w 40) rfl rfl) (fun v h hq => ?_)
      obtain ⟨rfl, rfl⟩ := hq
      refine mm_T.seg (f' := (30, [some (.ref 37), some (.int x1), some (.int x2), some (.int x3)], [(.int ((mf_pick I 40 8 x1) + x3)), (.int x1), (.ref 40)])) (h' := (107, I, J, mm_rf 3 sp rr w 40)) 2 rfl ?_
      refine mm_T.call (t := 205) (as := [(.ref 40), (.int x1), (.int ((mf_pick I 40 8 x1) + x3))]) (f' := (33, [some (.ref 37), some (.int x1), some (.int x2), some (.int x3)], [])) rfl (t_put _ 40 8 x1 ((mf_pick I 40 8 x1) + x3) I J (mm_rf 3 sp rr w 40) rfl rfl) (fun v h hq => ?_)
      obtain ⟨rfl, rfl⟩ := hq
      cases e
      exact mm_T.ret rfl ⟨rfl, rfl⟩
    · rw [if_neg h2011] at e
      cases e
      exact mm_T.ret rfl ⟨rfl, rfl⟩
  · unfold fX6_flowTo at e
    refine mm_T.seg (f' := (9, [some (.ref 37), some (.int x1), some (.int x2), some (.int x3)], [(.int x2), (.int x1), (.ref 19)])) (h' := (107, I, J, mm_rf 19 sp rr w 39)) 5 rfl ?_
    refine mm_T.call (t := 69) (as := [(.ref 19), (.int x1), (.int x2)]) (f' := (12, [some (.ref 37), some (.int x1), some (.int x2), some (.int x3)], [])) rfl (tX5_ironAt (d + 0) x1 x2 19 I J 19 sp rr w 39 (Or.inr rfl) _ rfl) (fun v h hq => ?_)
    obtain ⟨rfl, rfl⟩ := hq
    refine mm_T.br (c := (fX5_ironAt x1 x2 19 I) = 0) (a := ((15, [some (.ref 37), some (.int x1), some (.int x2), some (.int x3)], []), (107, I, J, mm_rf 19 sp rr w 39))) (b := ((33, [some (.ref 37), some (.int x1), some (.int x2), some (.int x3)], []), (107, I, J, mm_rf 19 sp rr w 39))) rfl (fun h2011 => ?_) (fun h2011 => ?_)
    · rw [if_pos h2011] at e
      refine mm_T.seg (f' := (25, [some (.ref 37), some (.int x1), some (.int x2), some (.int x3)], [(.int x1), (.ref 39), (.int x1), (.ref 39)])) (h' := (107, I, J, mm_rf 19 sp rr w 39)) 6 rfl ?_
      refine mm_T.call (t := 204) (as := [(.ref 39), (.int x1)]) (f' := (28, [some (.ref 37), some (.int x1), some (.int x2), some (.int x3)], [(.int x1), (.ref 39)])) rfl (t_pick _ 39 8 x1 I J (mm_rf 19 sp rr w 39) rfl rfl) (fun v h hq => ?_)
      obtain ⟨rfl, rfl⟩ := hq
      refine mm_T.seg (f' := (30, [some (.ref 37), some (.int x1), some (.int x2), some (.int x3)], [(.int ((mf_pick I 39 8 x1) + x3)), (.int x1), (.ref 39)])) (h' := (107, I, J, mm_rf 19 sp rr w 39)) 2 rfl ?_
      refine mm_T.call (t := 205) (as := [(.ref 39), (.int x1), (.int ((mf_pick I 39 8 x1) + x3))]) (f' := (33, [some (.ref 37), some (.int x1), some (.int x2), some (.int x3)], [])) rfl (t_put _ 39 8 x1 ((mf_pick I 39 8 x1) + x3) I J (mm_rf 19 sp rr w 39) rfl rfl) (fun v h hq => ?_)
      obtain ⟨rfl, rfl⟩ := hq
      cases e
      exact mm_T.ret rfl ⟨rfl, rfl⟩
    · rw [if_neg h2011] at e
      cases e
      exact mm_T.ret rfl ⟨rfl, rfl⟩
  · unfold fX6_flowTo at e
    refine mm_T.seg (f' := (9, [some (.ref 37), some (.int x1), some (.int x2), some (.int x3)], [(.int x2), (.int x1), (.ref 19)])) (h' := (107, I, J, mm_rf 19 sp rr w 40)) 5 rfl ?_
    refine mm_T.call (t := 69) (as := [(.ref 19), (.int x1), (.int x2)]) (f' := (12, [some (.ref 37), some (.int x1), some (.int x2), some (.int x3)], [])) rfl (tX5_ironAt (d + 0) x1 x2 19 I J 19 sp rr w 40 (Or.inr rfl) _ rfl) (fun v h hq => ?_)
    obtain ⟨rfl, rfl⟩ := hq
    refine mm_T.br (c := (fX5_ironAt x1 x2 19 I) = 0) (a := ((15, [some (.ref 37), some (.int x1), some (.int x2), some (.int x3)], []), (107, I, J, mm_rf 19 sp rr w 40))) (b := ((33, [some (.ref 37), some (.int x1), some (.int x2), some (.int x3)], []), (107, I, J, mm_rf 19 sp rr w 40))) rfl (fun h2011 => ?_) (fun h2011 => ?_)
    · rw [if_pos h2011] at e
      refine mm_T.seg (f' := (25, [some (.ref 37), some (.int x1), some (.int x2), some (.int x3)], [(.int x1), (.ref 40), (.int x1), (.ref 40)])) (h' := (107, I, J, mm_rf 19 sp rr w 40)) 6 rfl ?_
      refine mm_T.call (t := 204) (as := [(.ref 40), (.int x1)]) (f' := (28, [some (.ref 37), some (.int x1), some (.int x2), some (.int x3)], [(.int x1), (.ref 40)])) rfl (t_pick _ 40 8 x1 I J (mm_rf 19 sp rr w 40) rfl rfl) (fun v h hq => ?_)
      obtain ⟨rfl, rfl⟩ := hq
      refine mm_T.seg (f' := (30, [some (.ref 37), some (.int x1), some (.int x2), some (.int x3)], [(.int ((mf_pick I 40 8 x1) + x3)), (.int x1), (.ref 40)])) (h' := (107, I, J, mm_rf 19 sp rr w 40)) 2 rfl ?_
      refine mm_T.call (t := 205) (as := [(.ref 40), (.int x1), (.int ((mf_pick I 40 8 x1) + x3))]) (f' := (33, [some (.ref 37), some (.int x1), some (.int x2), some (.int x3)], [])) rfl (t_put _ 40 8 x1 ((mf_pick I 40 8 x1) + x3) I J (mm_rf 19 sp rr w 40) rfl rfl) (fun v h hq => ?_)
      obtain ⟨rfl, rfl⟩ := hq
      cases e
      exact mm_T.ret rfl ⟨rfl, rfl⟩
    · rw [if_neg h2011] at e
      cases e
      exact mm_T.ret rfl ⟨rfl, rfl⟩

set_option maxRecDepth 100000 in
set_option maxHeartbeats 4000000 in
theorem tlX6_commonPart_L7 (d : Nat) (Q : Option Value → mm_H → Prop) : ∀ (n : Nat) (y2 : Int32) (y3 : Int32) (y4 : Int32) (I : Nat → Nat → Int32) (J : Nat → Nat → Int64) (rv sp rr w nw : Nat), ∀ (out : Int32), fX6_commonPart_L7 n y2 y3 y4 = some out → mm_T none (d + 0) 98 (34, [none, none, some (.int out), none, none, none], []) (107, I, J, mm_rf rv sp rr w nw) Q → mm_T none (d + 0) 98 (7, [none, none, some (.int y2), some (.int y3), some (.int y4), none], []) (107, I, J, mm_rf rv sp rr w nw) Q := by
  intro n
  induction n with
  | zero =>
    intro y2 y3 y4 I J rv sp rr w nw out e k
    rw [fX6_commonPart_L7] at e; cases e
  | succ n ih =>
    intro y2 y3 y4 I J rv sp rr w nw out e k
    rw [fX6_commonPart_L7] at e
    refine mm_T.seg (f' := (11, [none, none, some (.int y2), some (.int y3), some (.int y4), none], [(.int 100), (.int y4)])) (h' := (107, I, J, mm_rf rv sp rr w nw)) 2 rfl ?_
    refine mm_T.br (c := y4 < 100) (a := ((14, [none, none, some (.int y2), some (.int y3), some (.int y4), none], []), (107, I, J, mm_rf rv sp rr w nw))) (b := ((34, [none, none, some (.int y2), some (.int y3), some (.int y4), none], []), (107, I, J, mm_rf rv sp rr w nw))) rfl (fun h2018 => ?_) (fun h2018 => ?_)
    · rw [if_pos h2018] at e
      refine mm_T.seg (f' := (15, [none, none, some (.int y2), some (.int y3), some (.int y4), none], [(.int y3)])) (h' := (107, I, J, mm_rf rv sp rr w nw)) 1 rfl ?_
      refine mm_T.br (c := y3 = 0) (a := ((34, [none, none, some (.int y2), some (.int y3), some (.int y4), none], []), (107, I, J, mm_rf rv sp rr w nw))) (b := ((18, [none, none, some (.int y2), some (.int y3), some (.int y4), none], []), (107, I, J, mm_rf rv sp rr w nw))) rfl (fun h2019 => ?_) (fun h2019 => ?_)
      · rw [if_pos h2019] at e
        cases e
        refine mm_T.mask [false, false, true, false, false, false] ?_
        exact k
      · rw [if_neg h2019] at e
        refine mm_T.seg (f' := (20, [none, none, some (.int y2), some (.int y3), some (.int y4), none], [(.int y3), (.int y2)])) (h' := (107, I, J, mm_rf rv sp rr w nw)) 2 rfl ?_
        by_cases h2020 : y3 = 0
        · rw [if_pos h2020] at e; cases e
        rw [if_neg h2020] at e
        refine mm_T.guard (y := ((21, [none, none, some (.int y2), some (.int y3), some (.int y4), none], [(.int (y2 - y2 / y3 * y3))]), (107, I, J, mm_rf rv sp rr w nw))) rfl h2020 ?_
        refine mm_T.seg (f' := (7, [none, none, some (.int y3), some (.int (y2 - y2 / y3 * y3)), some (.int (y4 + 1)), some (.int (y2 - y2 / y3 * y3))], [])) (h' := (107, I, J, mm_rf rv sp rr w nw)) 7 rfl ?_
        refine mm_T.mask [false, false, true, true, true, false] ?_
        exact ih y3 (y2 - y2 / y3 * y3) (y4 + 1) I J rv sp rr w nw out e k
    · rw [if_neg h2018] at e
      cases e
      refine mm_T.mask [false, false, true, false, false, false] ?_
      exact k
set_option maxRecDepth 100000 in
set_option maxHeartbeats 4000000 in
theorem tX6_commonPart (d n : Nat) (x0 : Int32) (x1 : Int32) (I : Nat → Nat → Int32) (J : Nat → Nat → Int64) (rv sp rr w nw : Nat) (out : Int32) (e : fX6_commonPart n x0 x1 = some out) : mm_T none (d + 0) 98 (mm_ent 98 [(.int x0), (.int x1)]) (107, I, J, mm_rf rv sp rr w nw) (fun v h => v = some (.int out) ∧ h = (107, I, J, mm_rf rv sp rr w nw)) := by
  unfold fX6_commonPart at e
  refine mm_T.seg (f' := (7, [some (.int x0), some (.int x1), some (.int x0), some (.int x1), some (.int 0), none], [])) (h' := (107, I, J, mm_rf rv sp rr w nw)) 6 rfl ?_
  refine mm_T.mask [false, false, true, true, true, false] ?_
  obtain ⟨o2021, eo2021, e⟩ := mm_bind e
  refine tlX6_commonPart_L7 d _ n x0 x1 0 I J rv sp rr w nw o2021 eo2021 ?_
  refine mm_T.seg (f' := (35, [none, none, some (.int o2021), none, none, none], [(.int o2021)])) (h' := (107, I, J, mm_rf rv sp rr w nw)) 1 rfl ?_
  cases e
  exact mm_T.ret rfl ⟨rfl, rfl⟩
set_option maxRecDepth 100000 in
set_option maxHeartbeats 4000000 in
theorem tX7_isBoard (d : Nat) (x1 : Int32) (I : Nat → Nat → Int32) (J : Nat → Nat → Int64) (rv sp rr w nw : Nat) (hrv : rv = 3 ∨ rv = 19) (out : Int32) (e : fX7_isBoard x1 I rv = out) : mm_T none (d + 0) 101 (mm_ent 101 [(.ref 18), (.int x1)]) (107, I, J, mm_rf rv sp rr w nw) (fun v h => v = some (.int out) ∧ h = (107, I, J, mm_rf rv sp rr w nw)) := by
  rcases hrv with rfl | rfl
  · unfold fX7_isBoard at e
    refine mm_T.seg (f' := (1, [some (.ref 18), some (.int x1)], [(.int x1)])) (h' := (107, I, J, mm_rf 3 sp rr w nw)) 1 rfl ?_
    refine mm_T.br (c := x1 < 0) (a := ((19, [some (.ref 18), some (.int x1)], []), (107, I, J, mm_rf 3 sp rr w nw))) (b := ((4, [some (.ref 18), some (.int x1)], []), (107, I, J, mm_rf 3 sp rr w nw))) rfl (fun h2022 => ?_) (fun h2022 => ?_)
    · rw [if_pos h2022] at e
      refine mm_T.seg (f' := (20, [some (.ref 18), some (.int x1)], [(.int 0)])) (h' := (107, I, J, mm_rf 3 sp rr w nw)) 1 rfl ?_
      cases e
      exact mm_T.ret rfl ⟨rfl, rfl⟩
    · rw [if_neg h2022] at e
      refine mm_T.seg (f' := (12, [some (.ref 18), some (.int x1)], [(.int (I 3 4)), (.int x1)])) (h' := (107, I, J, mm_rf 3 sp rr w nw)) 4 rfl ?_
      refine mm_T.br (c := x1 < (I 3 4)) (a := ((15, [some (.ref 18), some (.int x1)], []), (107, I, J, mm_rf 3 sp rr w nw))) (b := ((19, [some (.ref 18), some (.int x1)], []), (107, I, J, mm_rf 3 sp rr w nw))) rfl (fun h2023 => ?_) (fun h2023 => ?_)
      · rw [if_pos h2023] at e
        refine mm_T.seg (f' := (20, [some (.ref 18), some (.int x1)], [(.int 1)])) (h' := (107, I, J, mm_rf 3 sp rr w nw)) 2 rfl ?_
        cases e
        exact mm_T.ret rfl ⟨rfl, rfl⟩
      · rw [if_neg h2023] at e
        refine mm_T.seg (f' := (20, [some (.ref 18), some (.int x1)], [(.int 0)])) (h' := (107, I, J, mm_rf 3 sp rr w nw)) 1 rfl ?_
        cases e
        exact mm_T.ret rfl ⟨rfl, rfl⟩
  · unfold fX7_isBoard at e
    refine mm_T.seg (f' := (1, [some (.ref 18), some (.int x1)], [(.int x1)])) (h' := (107, I, J, mm_rf 19 sp rr w nw)) 1 rfl ?_
    refine mm_T.br (c := x1 < 0) (a := ((19, [some (.ref 18), some (.int x1)], []), (107, I, J, mm_rf 19 sp rr w nw))) (b := ((4, [some (.ref 18), some (.int x1)], []), (107, I, J, mm_rf 19 sp rr w nw))) rfl (fun h2022 => ?_) (fun h2022 => ?_)
    · rw [if_pos h2022] at e
      refine mm_T.seg (f' := (20, [some (.ref 18), some (.int x1)], [(.int 0)])) (h' := (107, I, J, mm_rf 19 sp rr w nw)) 1 rfl ?_
      cases e
      exact mm_T.ret rfl ⟨rfl, rfl⟩
    · rw [if_neg h2022] at e
      refine mm_T.seg (f' := (12, [some (.ref 18), some (.int x1)], [(.int (I 19 4)), (.int x1)])) (h' := (107, I, J, mm_rf 19 sp rr w nw)) 4 rfl ?_
      refine mm_T.br (c := x1 < (I 19 4)) (a := ((15, [some (.ref 18), some (.int x1)], []), (107, I, J, mm_rf 19 sp rr w nw))) (b := ((19, [some (.ref 18), some (.int x1)], []), (107, I, J, mm_rf 19 sp rr w nw))) rfl (fun h2023 => ?_) (fun h2023 => ?_)
      · rw [if_pos h2023] at e
        refine mm_T.seg (f' := (20, [some (.ref 18), some (.int x1)], [(.int 1)])) (h' := (107, I, J, mm_rf 19 sp rr w nw)) 2 rfl ?_
        cases e
        exact mm_T.ret rfl ⟨rfl, rfl⟩
      · rw [if_neg h2023] at e
        refine mm_T.seg (f' := (20, [some (.ref 18), some (.int x1)], [(.int 0)])) (h' := (107, I, J, mm_rf 19 sp rr w nw)) 1 rfl ?_
        cases e
        exact mm_T.ret rfl ⟨rfl, rfl⟩
set_option maxRecDepth 100000 in
set_option maxHeartbeats 4000000 in
theorem tX7_isLoad (d : Nat) (x1 : Int32) (I : Nat → Nat → Int32) (J : Nat → Nat → Int64) (rv sp rr w nw : Nat) (hrv : rv = 3 ∨ rv = 19) (out : Int32) (e : fX7_isLoad x1 I rv = out) : mm_T none (d + 0) 102 (mm_ent 102 [(.ref 18), (.int x1)]) (107, I, J, mm_rf rv sp rr w nw) (fun v h => v = some (.int out) ∧ h = (107, I, J, mm_rf rv sp rr w nw)) := by
  rcases hrv with rfl | rfl
  · unfold fX7_isLoad at e
    refine mm_T.seg (f' := (1, [some (.ref 18), some (.int x1)], [(.int x1)])) (h' := (107, I, J, mm_rf 3 sp rr w nw)) 1 rfl ?_
    refine mm_T.br (c := x1 < 0) (a := ((19, [some (.ref 18), some (.int x1)], []), (107, I, J, mm_rf 3 sp rr w nw))) (b := ((4, [some (.ref 18), some (.int x1)], []), (107, I, J, mm_rf 3 sp rr w nw))) rfl (fun h2024 => ?_) (fun h2024 => ?_)
    · rw [if_pos h2024] at e
      refine mm_T.seg (f' := (20, [some (.ref 18), some (.int x1)], [(.int 0)])) (h' := (107, I, J, mm_rf 3 sp rr w nw)) 1 rfl ?_
      cases e
      exact mm_T.ret rfl ⟨rfl, rfl⟩
    · rw [if_neg h2024] at e
      refine mm_T.seg (f' := (12, [some (.ref 18), some (.int x1)], [(.int (I 3 5)), (.int x1)])) (h' := (107, I, J, mm_rf 3 sp rr w nw)) 4 rfl ?_
      refine mm_T.br (c := x1 < (I 3 5)) (a := ((15, [some (.ref 18), some (.int x1)], []), (107, I, J, mm_rf 3 sp rr w nw))) (b := ((19, [some (.ref 18), some (.int x1)], []), (107, I, J, mm_rf 3 sp rr w nw))) rfl (fun h2025 => ?_) (fun h2025 => ?_)
      · rw [if_pos h2025] at e
        refine mm_T.seg (f' := (20, [some (.ref 18), some (.int x1)], [(.int 1)])) (h' := (107, I, J, mm_rf 3 sp rr w nw)) 2 rfl ?_
        cases e
        exact mm_T.ret rfl ⟨rfl, rfl⟩
      · rw [if_neg h2025] at e
        refine mm_T.seg (f' := (20, [some (.ref 18), some (.int x1)], [(.int 0)])) (h' := (107, I, J, mm_rf 3 sp rr w nw)) 1 rfl ?_
        cases e
        exact mm_T.ret rfl ⟨rfl, rfl⟩
  · unfold fX7_isLoad at e
    refine mm_T.seg (f' := (1, [some (.ref 18), some (.int x1)], [(.int x1)])) (h' := (107, I, J, mm_rf 19 sp rr w nw)) 1 rfl ?_
    refine mm_T.br (c := x1 < 0) (a := ((19, [some (.ref 18), some (.int x1)], []), (107, I, J, mm_rf 19 sp rr w nw))) (b := ((4, [some (.ref 18), some (.int x1)], []), (107, I, J, mm_rf 19 sp rr w nw))) rfl (fun h2024 => ?_) (fun h2024 => ?_)
    · rw [if_pos h2024] at e
      refine mm_T.seg (f' := (20, [some (.ref 18), some (.int x1)], [(.int 0)])) (h' := (107, I, J, mm_rf 19 sp rr w nw)) 1 rfl ?_
      cases e
      exact mm_T.ret rfl ⟨rfl, rfl⟩
    · rw [if_neg h2024] at e
      refine mm_T.seg (f' := (12, [some (.ref 18), some (.int x1)], [(.int (I 19 5)), (.int x1)])) (h' := (107, I, J, mm_rf 19 sp rr w nw)) 4 rfl ?_
      refine mm_T.br (c := x1 < (I 19 5)) (a := ((15, [some (.ref 18), some (.int x1)], []), (107, I, J, mm_rf 19 sp rr w nw))) (b := ((19, [some (.ref 18), some (.int x1)], []), (107, I, J, mm_rf 19 sp rr w nw))) rfl (fun h2025 => ?_) (fun h2025 => ?_)
      · rw [if_pos h2025] at e
        refine mm_T.seg (f' := (20, [some (.ref 18), some (.int x1)], [(.int 1)])) (h' := (107, I, J, mm_rf 19 sp rr w nw)) 2 rfl ?_
        cases e
        exact mm_T.ret rfl ⟨rfl, rfl⟩
      · rw [if_neg h2025] at e
        refine mm_T.seg (f' := (20, [some (.ref 18), some (.int x1)], [(.int 0)])) (h' := (107, I, J, mm_rf 19 sp rr w nw)) 1 rfl ?_
        cases e
        exact mm_T.ret rfl ⟨rfl, rfl⟩
set_option maxRecDepth 100000 in
set_option maxHeartbeats 4000000 in
theorem tX7_set (d : Nat) (x1 : Int32) (x2 : Int32) (x3 : Int32) (I : Nat → Nat → Int32) (J : Nat → Nat → Int64) (rv sp rr w nw : Nat) (out : (Nat → Nat → Int32)) (e : fX7_set x1 x2 x3 I = out) : mm_T none (d + 1) 104 (mm_ent 104 [(.ref 18), (.int x1), (.int x2), (.int x3)]) (107, I, J, mm_rf rv sp rr w nw) (fun v h => v = none ∧ h = (107, out, J, mm_rf rv sp rr w nw)) := by
  unfold fX7_set at e
  refine mm_T.seg (f' := (10, [some (.ref 18), some (.int x1), some (.int x2), some (.int x3)], [(.int x3), (.int ((x1 * 5) + x2)), (.ref 32)])) (h' := (107, I, J, mm_rf rv sp rr w nw)) 8 rfl ?_
  refine mm_T.call (t := 205) (as := [(.ref 32), (.int ((x1 * 5) + x2)), (.int x3)]) (f' := (13, [some (.ref 18), some (.int x1), some (.int x2), some (.int x3)], [])) rfl (t_put _ 32 28 ((x1 * 5) + x2) x3 I J (mm_rf rv sp rr w nw) rfl rfl) (fun v h hq => ?_)
  obtain ⟨rfl, rfl⟩ := hq
  cases e
  exact mm_T.ret rfl ⟨rfl, rfl⟩
set_option maxRecDepth 100000 in
set_option maxHeartbeats 4000000 in
theorem tX7_heatOf (d : Nat) (x1 : Int32) (I : Nat → Nat → Int32) (J : Nat → Nat → Int64) (rv sp rr w nw : Nat) (out : Int32) (e : fX7_heatOf x1 I = out) : mm_T none (d + 2) 107 (mm_ent 107 [(.ref 18), (.int x1)]) (107, I, J, mm_rf rv sp rr w nw) (fun v h => v = some (.int out) ∧ h = (107, I, J, mm_rf rv sp rr w nw)) := by
  unfold fX7_heatOf at e
  refine mm_T.seg (f' := (3, [some (.ref 18), some (.int x1)], [(.int 2), (.int x1), (.ref 18)])) (h' := (107, I, J, mm_rf rv sp rr w nw)) 3 rfl ?_
  refine mm_T.call (t := 103) (as := [(.ref 18), (.int x1), (.int 2)]) (f' := (6, [some (.ref 18), some (.int x1)], [])) rfl (tX7_get (d + 0) x1 2 I J rv sp rr w nw _ rfl) (fun v h hq => ?_)
  obtain ⟨rfl, rfl⟩ := hq
  cases e
  exact mm_T.ret rfl ⟨rfl, rfl⟩
set_option maxRecDepth 100000 in
set_option maxHeartbeats 4000000 in
theorem tX7_setHeat (d : Nat) (x1 : Int32) (x2 : Int32) (I : Nat → Nat → Int32) (J : Nat → Nat → Int64) (rv sp rr w nw : Nat) (out : (Nat → Nat → Int32)) (e : fX7_setHeat x1 x2 I = out) : mm_T none (d + 2) 108 (mm_ent 108 [(.ref 18), (.int x1), (.int x2)]) (107, I, J, mm_rf rv sp rr w nw) (fun v h => v = none ∧ h = (107, out, J, mm_rf rv sp rr w nw)) := by
  unfold fX7_setHeat at e
  refine mm_T.seg (f' := (4, [some (.ref 18), some (.int x1), some (.int x2)], [(.int x2), (.int 2), (.int x1), (.ref 18)])) (h' := (107, I, J, mm_rf rv sp rr w nw)) 4 rfl ?_
  refine mm_T.call (t := 104) (as := [(.ref 18), (.int x1), (.int 2), (.int x2)]) (f' := (7, [some (.ref 18), some (.int x1), some (.int x2)], [])) rfl (tX7_set (d + 0) x1 2 x2 I J rv sp rr w nw _ rfl) (fun v h hq => ?_)
  obtain ⟨rfl, rfl⟩ := hq
  cases e
  exact mm_T.ret rfl ⟨rfl, rfl⟩
set_option maxRecDepth 100000 in
set_option maxHeartbeats 4000000 in
theorem tX7_scorchesOf (d : Nat) (x1 : Int32) (I : Nat → Nat → Int32) (J : Nat → Nat → Int64) (rv sp rr w nw : Nat) (out : Int32) (e : fX7_scorchesOf x1 I = out) : mm_T none (d + 2) 109 (mm_ent 109 [(.ref 18), (.int x1)]) (107, I, J, mm_rf rv sp rr w nw) (fun v h => v = some (.int out) ∧ h = (107, I, J, mm_rf rv sp rr w nw)) := by
  unfold fX7_scorchesOf at e
  refine mm_T.seg (f' := (3, [some (.ref 18), some (.int x1)], [(.int 3), (.int x1), (.ref 18)])) (h' := (107, I, J, mm_rf rv sp rr w nw)) 3 rfl ?_
  refine mm_T.call (t := 103) (as := [(.ref 18), (.int x1), (.int 3)]) (f' := (6, [some (.ref 18), some (.int x1)], [])) rfl (tX7_get (d + 0) x1 3 I J rv sp rr w nw _ rfl) (fun v h hq => ?_)
  obtain ⟨rfl, rfl⟩ := hq
  cases e
  exact mm_T.ret rfl ⟨rfl, rfl⟩
set_option maxRecDepth 100000 in
set_option maxHeartbeats 4000000 in
theorem tX7_strokesOf (d : Nat) (x1 : Int32) (I : Nat → Nat → Int32) (J : Nat → Nat → Int64) (rv sp rr w nw : Nat) (out : Int32) (e : fX7_strokesOf x1 I = out) : mm_T none (d + 2) 110 (mm_ent 110 [(.ref 18), (.int x1)]) (107, I, J, mm_rf rv sp rr w nw) (fun v h => v = some (.int out) ∧ h = (107, I, J, mm_rf rv sp rr w nw)) := by
  unfold fX7_strokesOf at e
  refine mm_T.seg (f' := (3, [some (.ref 18), some (.int x1)], [(.int 4), (.int x1), (.ref 18)])) (h' := (107, I, J, mm_rf rv sp rr w nw)) 3 rfl ?_
  refine mm_T.call (t := 103) (as := [(.ref 18), (.int x1), (.int 4)]) (f' := (6, [some (.ref 18), some (.int x1)], [])) rfl (tX7_get (d + 0) x1 4 I J rv sp rr w nw _ rfl) (fun v h hq => ?_)
  obtain ⟨rfl, rfl⟩ := hq
  cases e
  exact mm_T.ret rfl ⟨rfl, rfl⟩
set_option maxRecDepth 100000 in
set_option maxHeartbeats 4000000 in
theorem tX7_placeOf (d : Nat) (x1 : Int32) (I : Nat → Nat → Int32) (J : Nat → Nat → Int64) (rv sp rr w nw : Nat) (out : Int32) (e : fX7_placeOf x1 I = out) : mm_T none (d + 1) 112 (mm_ent 112 [(.ref 18), (.int x1)]) (107, I, J, mm_rf rv sp rr w nw) (fun v h => v = some (.int out) ∧ h = (107, I, J, mm_rf rv sp rr w nw)) := by
  unfold fX7_placeOf at e
  refine mm_T.seg (f' := (8, [some (.ref 18), some (.int x1)], [(.int (20 + x1)), (.ref 32)])) (h' := (107, I, J, mm_rf rv sp rr w nw)) 5 rfl ?_
  refine mm_T.call (t := 204) (as := [(.ref 32), (.int (20 + x1))]) (f' := (11, [some (.ref 18), some (.int x1)], [])) rfl (t_pick _ 32 28 (20 + x1) I J (mm_rf rv sp rr w nw) rfl rfl) (fun v h hq => ?_)
  obtain ⟨rfl, rfl⟩ := hq
  cases e
  exact mm_T.ret rfl ⟨rfl, rfl⟩
set_option maxRecDepth 100000 in
set_option maxHeartbeats 4000000 in
theorem tX7_setPlace (d : Nat) (x1 : Int32) (x2 : Int32) (I : Nat → Nat → Int32) (J : Nat → Nat → Int64) (rv sp rr w nw : Nat) (out : (Nat → Nat → Int32)) (e : fX7_setPlace x1 x2 I = out) : mm_T none (d + 1) 113 (mm_ent 113 [(.ref 18), (.int x1), (.int x2)]) (107, I, J, mm_rf rv sp rr w nw) (fun v h => v = none ∧ h = (107, out, J, mm_rf rv sp rr w nw)) := by
  unfold fX7_setPlace at e
  refine mm_T.seg (f' := (9, [some (.ref 18), some (.int x1), some (.int x2)], [(.int x2), (.int (20 + x1)), (.ref 32)])) (h' := (107, I, J, mm_rf rv sp rr w nw)) 6 rfl ?_
  refine mm_T.call (t := 205) (as := [(.ref 32), (.int (20 + x1)), (.int x2)]) (f' := (12, [some (.ref 18), some (.int x1), some (.int x2)], [])) rfl (t_put _ 32 28 (20 + x1) x2 I J (mm_rf rv sp rr w nw) rfl rfl) (fun v h hq => ?_)
  obtain ⟨rfl, rfl⟩ := hq
  cases e
  exact mm_T.ret rfl ⟨rfl, rfl⟩
set_option maxRecDepth 100000 in
set_option maxHeartbeats 4000000 in
theorem tX7_seed (d : Nat) (I : Nat → Nat → Int32) (J : Nat → Nat → Int64) (rv sp rr w nw : Nat) (out : Int32) (e : fX7_seed I = out) : mm_T none (d + 1) 114 (mm_ent 114 [(.ref 18)]) (107, I, J, mm_rf rv sp rr w nw) (fun v h => v = some (.int out) ∧ h = (107, I, J, mm_rf rv sp rr w nw)) := by
  unfold fX7_seed at e
  refine mm_T.seg (f' := (6, [some (.ref 18)], [(.int 27), (.ref 32)])) (h' := (107, I, J, mm_rf rv sp rr w nw)) 3 rfl ?_
  refine mm_T.call (t := 204) (as := [(.ref 32), (.int 27)]) (f' := (9, [some (.ref 18)], [])) rfl (t_pick _ 32 28 27 I J (mm_rf rv sp rr w nw) rfl rfl) (fun v h hq => ?_)
  obtain ⟨rfl, rfl⟩ := hq
  cases e
  exact mm_T.ret rfl ⟨rfl, rfl⟩
set_option maxRecDepth 100000 in
set_option maxHeartbeats 4000000 in
theorem tX7_allLoads (d : Nat) (I : Nat → Nat → Int32) (J : Nat → Nat → Int64) (rv sp rr w nw : Nat) (hrv : rv = 3 ∨ rv = 19) (out : Int32) (e : fX7_allLoads I rv = out) : mm_T none (d + 0) 115 (mm_ent 115 [(.ref 18)]) (107, I, J, mm_rf rv sp rr w nw) (fun v h => v = some (.int out) ∧ h = (107, I, J, mm_rf rv sp rr w nw)) := by
  rcases hrv with rfl | rfl
  · unfold fX7_allLoads at e
    refine mm_T.seg (f' := (11, [some (.ref 18)], [(.int (((1 : Int32) <<< ((I 3 5) &&& 31)) - 1))])) (h' := (107, I, J, mm_rf 3 sp rr w nw)) 7 rfl ?_
    cases e
    exact mm_T.ret rfl ⟨rfl, rfl⟩
  · unfold fX7_allLoads at e
    refine mm_T.seg (f' := (11, [some (.ref 18)], [(.int (((1 : Int32) <<< ((I 19 5) &&& 31)) - 1))])) (h' := (107, I, J, mm_rf 19 sp rr w nw)) 7 rfl ?_
    cases e
    exact mm_T.ret rfl ⟨rfl, rfl⟩
set_option maxRecDepth 100000 in
set_option maxHeartbeats 4000000 in
theorem tlX7_loadsAt_L4 (d : Nat) (Q : Option Value → mm_H → Prop) : ∀ (n : Nat) (y1 : Int32) (y2 : Int32) (y3 : Int32) (I : Nat → Nat → Int32) (J : Nat → Nat → Int64) (rv sp rr w nw : Nat), (rv = 3 ∨ rv = 19) → ∀ (out : Int32), fX7_loadsAt_L4 n y1 y2 y3 I rv = some out → mm_T none (d + 2) 116 (36, [none, none, some (.int out), none], []) (107, I, J, mm_rf rv sp rr w nw) Q → mm_T none (d + 2) 116 (4, [some (.ref 18), some (.int y1), some (.int y2), some (.int y3)], []) (107, I, J, mm_rf rv sp rr w nw) Q := by
  intro n
  induction n with
  | zero =>
    intro y1 y2 y3 I J rv sp rr w nw hrv out e k
    rw [fX7_loadsAt_L4] at e; cases e
  | succ n ih =>
    intro y1 y2 y3 I J rv sp rr w nw hrv out e k
    rcases hrv with rfl | rfl
    · rw [fX7_loadsAt_L4] at e
      refine mm_T.seg (f' := (12, [some (.ref 18), some (.int y1), some (.int y2), some (.int y3)], [(.int (I 3 5)), (.int y3)])) (h' := (107, I, J, mm_rf 3 sp rr w nw)) 4 rfl ?_
      refine mm_T.br (c := y3 < (I 3 5)) (a := ((15, [some (.ref 18), some (.int y1), some (.int y2), some (.int y3)], []), (107, I, J, mm_rf 3 sp rr w nw))) (b := ((36, [some (.ref 18), some (.int y1), some (.int y2), some (.int y3)], []), (107, I, J, mm_rf 3 sp rr w nw))) rfl (fun h2028 => ?_) (fun h2028 => ?_)
      · rw [if_pos h2028] at e
        refine mm_T.seg (f' := (17, [some (.ref 18), some (.int y1), some (.int y2), some (.int y3)], [(.int y3), (.ref 18)])) (h' := (107, I, J, mm_rf 3 sp rr w nw)) 2 rfl ?_
        refine mm_T.call (t := 112) (as := [(.ref 18), (.int y3)]) (f' := (20, [some (.ref 18), some (.int y1), some (.int y2), some (.int y3)], [])) rfl (tX7_placeOf (d + 0) y3 I J 3 sp rr w nw _ rfl) (fun v h hq => ?_)
        obtain ⟨rfl, rfl⟩ := hq
        refine mm_T.seg (f' := (21, [some (.ref 18), some (.int y1), some (.int y2), some (.int y3)], [(.int y1), (.int (fX7_placeOf y3 I))])) (h' := (107, I, J, mm_rf 3 sp rr w nw)) 1 rfl ?_
        refine mm_T.br (c := (fX7_placeOf y3 I) = y1) (a := ((24, [some (.ref 18), some (.int y1), some (.int y2), some (.int y3)], []), (107, I, J, mm_rf 3 sp rr w nw))) (b := ((30, [some (.ref 18), some (.int y1), some (.int y2), some (.int y3)], []), (107, I, J, mm_rf 3 sp rr w nw))) rfl (fun h2029 => ?_) (fun h2029 => ?_)
        · rw [if_pos h2029] at e
          refine mm_T.seg (f' := (4, [some (.ref 18), some (.int y1), some (.int (y2 ||| ((1 : Int32) <<< (y3 &&& 31)))), some (.int (y3 + 1))], [])) (h' := (107, I, J, mm_rf 3 sp rr w nw)) 8 rfl ?_
          refine mm_T.mask [true, true, true, true] ?_
          exact ih y1 (y2 ||| ((1 : Int32) <<< (y3 &&& 31))) (y3 + 1) I J 3 sp rr w nw (Or.inl rfl) out e k
        · rw [if_neg h2029] at e
          refine mm_T.seg (f' := (4, [some (.ref 18), some (.int y1), some (.int y2), some (.int (y3 + 1))], [])) (h' := (107, I, J, mm_rf 3 sp rr w nw)) 2 rfl ?_
          refine mm_T.mask [true, true, true, true] ?_
          exact ih y1 y2 (y3 + 1) I J 3 sp rr w nw (Or.inl rfl) out e k
      · rw [if_neg h2028] at e
        cases e
        refine mm_T.mask [false, false, true, false] ?_
        exact k
    · rw [fX7_loadsAt_L4] at e
      refine mm_T.seg (f' := (12, [some (.ref 18), some (.int y1), some (.int y2), some (.int y3)], [(.int (I 19 5)), (.int y3)])) (h' := (107, I, J, mm_rf 19 sp rr w nw)) 4 rfl ?_
      refine mm_T.br (c := y3 < (I 19 5)) (a := ((15, [some (.ref 18), some (.int y1), some (.int y2), some (.int y3)], []), (107, I, J, mm_rf 19 sp rr w nw))) (b := ((36, [some (.ref 18), some (.int y1), some (.int y2), some (.int y3)], []), (107, I, J, mm_rf 19 sp rr w nw))) rfl (fun h2028 => ?_) (fun h2028 => ?_)
      · rw [if_pos h2028] at e
        refine mm_T.seg (f' := (17, [some (.ref 18), some (.int y1), some (.int y2), some (.int y3)], [(.int y3), (.ref 18)])) (h' := (107, I, J, mm_rf 19 sp rr w nw)) 2 rfl ?_
        refine mm_T.call (t := 112) (as := [(.ref 18), (.int y3)]) (f' := (20, [some (.ref 18), some (.int y1), some (.int y2), some (.int y3)], [])) rfl (tX7_placeOf (d + 0) y3 I J 19 sp rr w nw _ rfl) (fun v h hq => ?_)
        obtain ⟨rfl, rfl⟩ := hq
        refine mm_T.seg (f' := (21, [some (.ref 18), some (.int y1), some (.int y2), some (.int y3)], [(.int y1), (.int (fX7_placeOf y3 I))])) (h' := (107, I, J, mm_rf 19 sp rr w nw)) 1 rfl ?_
        refine mm_T.br (c := (fX7_placeOf y3 I) = y1) (a := ((24, [some (.ref 18), some (.int y1), some (.int y2), some (.int y3)], []), (107, I, J, mm_rf 19 sp rr w nw))) (b := ((30, [some (.ref 18), some (.int y1), some (.int y2), some (.int y3)], []), (107, I, J, mm_rf 19 sp rr w nw))) rfl (fun h2029 => ?_) (fun h2029 => ?_)
        · rw [if_pos h2029] at e
          refine mm_T.seg (f' := (4, [some (.ref 18), some (.int y1), some (.int (y2 ||| ((1 : Int32) <<< (y3 &&& 31)))), some (.int (y3 + 1))], [])) (h' := (107, I, J, mm_rf 19 sp rr w nw)) 8 rfl ?_
          refine mm_T.mask [true, true, true, true] ?_
          exact ih y1 (y2 ||| ((1 : Int32) <<< (y3 &&& 31))) (y3 + 1) I J 19 sp rr w nw (Or.inr rfl) out e k
        · rw [if_neg h2029] at e
          refine mm_T.seg (f' := (4, [some (.ref 18), some (.int y1), some (.int y2), some (.int (y3 + 1))], [])) (h' := (107, I, J, mm_rf 19 sp rr w nw)) 2 rfl ?_
          refine mm_T.mask [true, true, true, true] ?_
          exact ih y1 y2 (y3 + 1) I J 19 sp rr w nw (Or.inr rfl) out e k
      · rw [if_neg h2028] at e
        cases e
        refine mm_T.mask [false, false, true, false] ?_
        exact k
set_option maxRecDepth 100000 in
set_option maxHeartbeats 4000000 in
theorem tX7_loadsAt (d n : Nat) (x1 : Int32) (I : Nat → Nat → Int32) (J : Nat → Nat → Int64) (rv sp rr w nw : Nat) (hrv : rv = 3 ∨ rv = 19) (out : Int32) (e : fX7_loadsAt n x1 I rv = some out) : mm_T none (d + 2) 116 (mm_ent 116 [(.ref 18), (.int x1)]) (107, I, J, mm_rf rv sp rr w nw) (fun v h => v = some (.int out) ∧ h = (107, I, J, mm_rf rv sp rr w nw)) := by
  rcases hrv with rfl | rfl
  · unfold fX7_loadsAt at e
    refine mm_T.seg (f' := (4, [some (.ref 18), some (.int x1), some (.int 0), some (.int 0)], [])) (h' := (107, I, J, mm_rf 3 sp rr w nw)) 4 rfl ?_
    refine mm_T.mask [true, true, true, true] ?_
    obtain ⟨o2030, eo2030, e⟩ := mm_bind e
    refine tlX7_loadsAt_L4 d _ n x1 0 0 I J 3 sp rr w nw (Or.inl rfl) o2030 eo2030 ?_
    refine mm_T.seg (f' := (37, [none, none, some (.int o2030), none], [(.int o2030)])) (h' := (107, I, J, mm_rf 3 sp rr w nw)) 1 rfl ?_
    cases e
    exact mm_T.ret rfl ⟨rfl, rfl⟩
  · unfold fX7_loadsAt at e
    refine mm_T.seg (f' := (4, [some (.ref 18), some (.int x1), some (.int 0), some (.int 0)], [])) (h' := (107, I, J, mm_rf 19 sp rr w nw)) 4 rfl ?_
    refine mm_T.mask [true, true, true, true] ?_
    obtain ⟨o2030, eo2030, e⟩ := mm_bind e
    refine tlX7_loadsAt_L4 d _ n x1 0 0 I J 19 sp rr w nw (Or.inr rfl) o2030 eo2030 ?_
    refine mm_T.seg (f' := (37, [none, none, some (.int o2030), none], [(.int o2030)])) (h' := (107, I, J, mm_rf 19 sp rr w nw)) 1 rfl ?_
    cases e
    exact mm_T.ret rfl ⟨rfl, rfl⟩
set_option maxRecDepth 100000 in
set_option maxHeartbeats 4000000 in
theorem tJ6_bitCount (d : Nat) (x0 : Int32) (I : Nat → Nat → Int32) (J : Nat → Nat → Int64) (rv sp rr w nw : Nat) (out : Int32) (e : fJ6_bitCount x0 = out) : mm_T none (d + 0) 345 (mm_ent 345 [(.int x0)]) (107, I, J, mm_rf rv sp rr w nw) (fun v h => v = some (.int out) ∧ h = (107, I, J, mm_rf rv sp rr w nw)) := by
  unfold fJ6_bitCount at e
  refine mm_T.seg (f' := (52, [some (.int (((((((x0 - ((x0.toUInt32 >>> ((1 : Int32).toUInt32 &&& Int32.toUInt32 31)).toInt32 &&& 1431655765)) &&& 858993459) + (((x0 - ((x0.toUInt32 >>> ((1 : Int32).toUInt32 &&& Int32.toUInt32 31)).toInt32 &&& 1431655765)).toUInt32 >>> ((2 : Int32).toUInt32 &&& Int32.toUInt32 31)).toInt32 &&& 858993459)) + ((((x0 - ((x0.toUInt32 >>> ((1 : Int32).toUInt32 &&& Int32.toUInt32 31)).toInt32 &&& 1431655765)) &&& 858993459) + (((x0 - ((x0.toUInt32 >>> ((1 : Int32).toUInt32 &&& Int32.toUInt32 31)).toInt32 &&& 1431655765)).toUInt32 >>> ((2 : Int32).toUInt32 &&& Int32.toUInt32 31)).toInt32 &&& 858993459)).toUInt32 >>> ((4 : Int32).toUInt32 &&& Int32.toUInt32 31)).toInt32) &&& 252645135) + ((((((x0 - ((x0.toUInt32 >>> ((1 : Int32).toUInt32 &&& Int32.toUInt32 31)).toInt32 &&& 1431655765)) &&& 858993459) + (((x0 - ((x0.toUInt32 >>> ((1 : Int32).toUInt32 &&& Int32.toUInt32 31)).toInt32 &&& 1431655765)).toUInt32 >>> ((2 : Int32).toUInt32 &&& Int32.toUInt32 31)).toInt32 &&& 858993459)) + ((((x0 - ((x0.toUInt32 >>> ((1 : Int32).toUInt32 &&& Int32.toUInt32 31)).toInt32 &&& 1431655765)) &&& 858993459) + (((x0 - ((x0.toUInt32 >>> ((1 : Int32).toUInt32 &&& Int32.toUInt32 31)).toInt32 &&& 1431655765)).toUInt32 >>> ((2 : Int32).toUInt32 &&& Int32.toUInt32 31)).toInt32 &&& 858993459)).toUInt32 >>> ((4 : Int32).toUInt32 &&& Int32.toUInt32 31)).toInt32) &&& 252645135).toUInt32 >>> ((8 : Int32).toUInt32 &&& Int32.toUInt32 31)).toInt32) + (((((((x0 - ((x0.toUInt32 >>> ((1 : Int32).toUInt32 &&& Int32.toUInt32 31)).toInt32 &&& 1431655765)) &&& 858993459) + (((x0 - ((x0.toUInt32 >>> ((1 : Int32).toUInt32 &&& Int32.toUInt32 31)).toInt32 &&& 1431655765)).toUInt32 >>> ((2 : Int32).toUInt32 &&& Int32.toUInt32 31)).toInt32 &&& 858993459)) + ((((x0 - ((x0.toUInt32 >>> ((1 : Int32).toUInt32 &&& Int32.toUInt32 31)).toInt32 &&& 1431655765)) &&& 858993459) + (((x0 - ((x0.toUInt32 >>> ((1 : Int32).toUInt32 &&& Int32.toUInt32 31)).toInt32 &&& 1431655765)).toUInt32 >>> ((2 : Int32).toUInt32 &&& Int32.toUInt32 31)).toInt32 &&& 858993459)).toUInt32 >>> ((4 : Int32).toUInt32 &&& Int32.toUInt32 31)).toInt32) &&& 252645135) + ((((((x0 - ((x0.toUInt32 >>> ((1 : Int32).toUInt32 &&& Int32.toUInt32 31)).toInt32 &&& 1431655765)) &&& 858993459) + (((x0 - ((x0.toUInt32 >>> ((1 : Int32).toUInt32 &&& Int32.toUInt32 31)).toInt32 &&& 1431655765)).toUInt32 >>> ((2 : Int32).toUInt32 &&& Int32.toUInt32 31)).toInt32 &&& 858993459)) + ((((x0 - ((x0.toUInt32 >>> ((1 : Int32).toUInt32 &&& Int32.toUInt32 31)).toInt32 &&& 1431655765)) &&& 858993459) + (((x0 - ((x0.toUInt32 >>> ((1 : Int32).toUInt32 &&& Int32.toUInt32 31)).toInt32 &&& 1431655765)).toUInt32 >>> ((2 : Int32).toUInt32 &&& Int32.toUInt32 31)).toInt32 &&& 858993459)).toUInt32 >>> ((4 : Int32).toUInt32 &&& Int32.toUInt32 31)).toInt32) &&& 252645135).toUInt32 >>> ((8 : Int32).toUInt32 &&& Int32.toUInt32 31)).toInt32).toUInt32 >>> ((16 : Int32).toUInt32 &&& Int32.toUInt32 31)).toInt32))], [(.int ((((((((x0 - ((x0.toUInt32 >>> ((1 : Int32).toUInt32 &&& Int32.toUInt32 31)).toInt32 &&& 1431655765)) &&& 858993459) + (((x0 - ((x0.toUInt32 >>> ((1 : Int32).toUInt32 &&& Int32.toUInt32 31)).toInt32 &&& 1431655765)).toUInt32 >>> ((2 : Int32).toUInt32 &&& Int32.toUInt32 31)).toInt32 &&& 858993459)) + ((((x0 - ((x0.toUInt32 >>> ((1 : Int32).toUInt32 &&& Int32.toUInt32 31)).toInt32 &&& 1431655765)) &&& 858993459) + (((x0 - ((x0.toUInt32 >>> ((1 : Int32).toUInt32 &&& Int32.toUInt32 31)).toInt32 &&& 1431655765)).toUInt32 >>> ((2 : Int32).toUInt32 &&& Int32.toUInt32 31)).toInt32 &&& 858993459)).toUInt32 >>> ((4 : Int32).toUInt32 &&& Int32.toUInt32 31)).toInt32) &&& 252645135) + ((((((x0 - ((x0.toUInt32 >>> ((1 : Int32).toUInt32 &&& Int32.toUInt32 31)).toInt32 &&& 1431655765)) &&& 858993459) + (((x0 - ((x0.toUInt32 >>> ((1 : Int32).toUInt32 &&& Int32.toUInt32 31)).toInt32 &&& 1431655765)).toUInt32 >>> ((2 : Int32).toUInt32 &&& Int32.toUInt32 31)).toInt32 &&& 858993459)) + ((((x0 - ((x0.toUInt32 >>> ((1 : Int32).toUInt32 &&& Int32.toUInt32 31)).toInt32 &&& 1431655765)) &&& 858993459) + (((x0 - ((x0.toUInt32 >>> ((1 : Int32).toUInt32 &&& Int32.toUInt32 31)).toInt32 &&& 1431655765)).toUInt32 >>> ((2 : Int32).toUInt32 &&& Int32.toUInt32 31)).toInt32 &&& 858993459)).toUInt32 >>> ((4 : Int32).toUInt32 &&& Int32.toUInt32 31)).toInt32) &&& 252645135).toUInt32 >>> ((8 : Int32).toUInt32 &&& Int32.toUInt32 31)).toInt32) + (((((((x0 - ((x0.toUInt32 >>> ((1 : Int32).toUInt32 &&& Int32.toUInt32 31)).toInt32 &&& 1431655765)) &&& 858993459) + (((x0 - ((x0.toUInt32 >>> ((1 : Int32).toUInt32 &&& Int32.toUInt32 31)).toInt32 &&& 1431655765)).toUInt32 >>> ((2 : Int32).toUInt32 &&& Int32.toUInt32 31)).toInt32 &&& 858993459)) + ((((x0 - ((x0.toUInt32 >>> ((1 : Int32).toUInt32 &&& Int32.toUInt32 31)).toInt32 &&& 1431655765)) &&& 858993459) + (((x0 - ((x0.toUInt32 >>> ((1 : Int32).toUInt32 &&& Int32.toUInt32 31)).toInt32 &&& 1431655765)).toUInt32 >>> ((2 : Int32).toUInt32 &&& Int32.toUInt32 31)).toInt32 &&& 858993459)).toUInt32 >>> ((4 : Int32).toUInt32 &&& Int32.toUInt32 31)).toInt32) &&& 252645135) + ((((((x0 - ((x0.toUInt32 >>> ((1 : Int32).toUInt32 &&& Int32.toUInt32 31)).toInt32 &&& 1431655765)) &&& 858993459) + (((x0 - ((x0.toUInt32 >>> ((1 : Int32).toUInt32 &&& Int32.toUInt32 31)).toInt32 &&& 1431655765)).toUInt32 >>> ((2 : Int32).toUInt32 &&& Int32.toUInt32 31)).toInt32 &&& 858993459)) + ((((x0 - ((x0.toUInt32 >>> ((1 : Int32).toUInt32 &&& Int32.toUInt32 31)).toInt32 &&& 1431655765)) &&& 858993459) + (((x0 - ((x0.toUInt32 >>> ((1 : Int32).toUInt32 &&& Int32.toUInt32 31)).toInt32 &&& 1431655765)).toUInt32 >>> ((2 : Int32).toUInt32 &&& Int32.toUInt32 31)).toInt32 &&& 858993459)).toUInt32 >>> ((4 : Int32).toUInt32 &&& Int32.toUInt32 31)).toInt32) &&& 252645135).toUInt32 >>> ((8 : Int32).toUInt32 &&& Int32.toUInt32 31)).toInt32).toUInt32 >>> ((16 : Int32).toUInt32 &&& Int32.toUInt32 31)).toInt32) &&& 63))])) (h' := (107, I, J, mm_rf rv sp rr w nw)) 41 rfl ?_
  cases e
  exact mm_T.ret rfl ⟨rfl, rfl⟩
set_option maxRecDepth 100000 in
set_option maxHeartbeats 4000000 in
theorem tX7_countOver (d n : Nat) (I : Nat → Nat → Int32) (J : Nat → Nat → Int64) (rv sp rr w nw : Nat) (hrv : rv = 3 ∨ rv = 19) (out : Int32) (e : fX7_countOver n I rv = some out) : mm_T none (d + 3) 117 (mm_ent 117 [(.ref 18)]) (107, I, J, mm_rf rv sp rr w nw) (fun v h => v = some (.int out) ∧ h = (107, I, J, mm_rf rv sp rr w nw)) := by
  rcases hrv with rfl | rfl
  · unfold fX7_countOver at e
    refine mm_T.seg (f' := (3, [some (.ref 18)], [(.int (-2)), (.ref 18)])) (h' := (107, I, J, mm_rf 3 sp rr w nw)) 2 rfl ?_
    obtain ⟨o2031, eo2031, e⟩ := mm_bind e
    refine mm_T.call (t := 116) (as := [(.ref 18), (.int (-2))]) (f' := (6, [some (.ref 18)], [])) rfl (tX7_loadsAt (d + 0) n (-2) I J 3 sp rr w nw (Or.inl rfl) o2031 eo2031) (fun v h hq => ?_)
    obtain ⟨rfl, rfl⟩ := hq
    refine mm_T.call (t := 345) (as := [(.int o2031)]) (f' := (9, [some (.ref 18)], [])) rfl (tJ6_bitCount (d + 2) o2031 I J 3 sp rr w nw _ rfl) (fun v h hq => ?_)
    obtain ⟨rfl, rfl⟩ := hq
    cases e
    exact mm_T.ret rfl ⟨rfl, rfl⟩
  · unfold fX7_countOver at e
    refine mm_T.seg (f' := (3, [some (.ref 18)], [(.int (-2)), (.ref 18)])) (h' := (107, I, J, mm_rf 19 sp rr w nw)) 2 rfl ?_
    obtain ⟨o2031, eo2031, e⟩ := mm_bind e
    refine mm_T.call (t := 116) (as := [(.ref 18), (.int (-2))]) (f' := (6, [some (.ref 18)], [])) rfl (tX7_loadsAt (d + 0) n (-2) I J 19 sp rr w nw (Or.inr rfl) o2031 eo2031) (fun v h hq => ?_)
    obtain ⟨rfl, rfl⟩ := hq
    refine mm_T.call (t := 345) (as := [(.int o2031)]) (f' := (9, [some (.ref 18)], [])) rfl (tJ6_bitCount (d + 2) o2031 I J 19 sp rr w nw _ rfl) (fun v h hq => ?_)
    obtain ⟨rfl, rfl⟩ := hq
    cases e
    exact mm_T.ret rfl ⟨rfl, rfl⟩
set_option maxRecDepth 100000 in
set_option maxHeartbeats 4000000 in
theorem tlX7_burdenOf_L4 (d : Nat) (Q : Option Value → mm_H → Prop) : ∀ (n : Nat) (y1 : Int32) (y2 : Int32) (y3 : Int32) (I : Nat → Nat → Int32) (J : Nat → Nat → Int64) (rv sp rr w nw : Nat), (rv = 3 ∨ rv = 19) → ∀ (out : Int32), fX7_burdenOf_L4 n y1 y2 y3 I rv = some out → mm_T none (d + 2) 118 (41, [none, none, some (.int out), none], []) (107, I, J, mm_rf rv sp rr w nw) Q → mm_T none (d + 2) 118 (4, [some (.ref 18), some (.int y1), some (.int y2), some (.int y3)], []) (107, I, J, mm_rf rv sp rr w nw) Q := by
  intro n
  induction n with
  | zero =>
    intro y1 y2 y3 I J rv sp rr w nw hrv out e k
    rw [fX7_burdenOf_L4] at e; cases e
  | succ n ih =>
    intro y1 y2 y3 I J rv sp rr w nw hrv out e k
    rcases hrv with rfl | rfl
    · rw [fX7_burdenOf_L4] at e
      refine mm_T.seg (f' := (12, [some (.ref 18), some (.int y1), some (.int y2), some (.int y3)], [(.int (I 3 5)), (.int y3)])) (h' := (107, I, J, mm_rf 3 sp rr w nw)) 4 rfl ?_
      refine mm_T.br (c := y3 < (I 3 5)) (a := ((15, [some (.ref 18), some (.int y1), some (.int y2), some (.int y3)], []), (107, I, J, mm_rf 3 sp rr w nw))) (b := ((41, [some (.ref 18), some (.int y1), some (.int y2), some (.int y3)], []), (107, I, J, mm_rf 3 sp rr w nw))) rfl (fun h2034 => ?_) (fun h2034 => ?_)
      · rw [if_pos h2034] at e
        refine mm_T.seg (f' := (17, [some (.ref 18), some (.int y1), some (.int y2), some (.int y3)], [(.int y3), (.ref 18)])) (h' := (107, I, J, mm_rf 3 sp rr w nw)) 2 rfl ?_
        refine mm_T.call (t := 112) (as := [(.ref 18), (.int y3)]) (f' := (20, [some (.ref 18), some (.int y1), some (.int y2), some (.int y3)], [])) rfl (tX7_placeOf (d + 0) y3 I J 3 sp rr w nw _ rfl) (fun v h hq => ?_)
        obtain ⟨rfl, rfl⟩ := hq
        refine mm_T.seg (f' := (21, [some (.ref 18), some (.int y1), some (.int y2), some (.int y3)], [(.int y1), (.int (fX7_placeOf y3 I))])) (h' := (107, I, J, mm_rf 3 sp rr w nw)) 1 rfl ?_
        refine mm_T.br (c := (fX7_placeOf y3 I) = y1) (a := ((24, [some (.ref 18), some (.int y1), some (.int y2), some (.int y3)], []), (107, I, J, mm_rf 3 sp rr w nw))) (b := ((35, [some (.ref 18), some (.int y1), some (.int y2), some (.int y3)], []), (107, I, J, mm_rf 3 sp rr w nw))) rfl (fun h2035 => ?_) (fun h2035 => ?_)
        · rw [if_pos h2035] at e
          refine mm_T.seg (f' := (30, [some (.ref 18), some (.int y1), some (.int y2), some (.int y3)], [(.int y3), (.ref 3), (.int y2)])) (h' := (107, I, J, mm_rf 3 sp rr w nw)) 4 rfl ?_
          refine mm_T.call (t := 80) (as := [(.ref 3), (.int y3)]) (f' := (33, [some (.ref 18), some (.int y1), some (.int y2), some (.int y3)], [(.int y2)])) rfl (tX5_loadWide (d + 0) y3 3 I J 3 sp rr w nw (Or.inl rfl) _ rfl) (fun v h hq => ?_)
          obtain ⟨rfl, rfl⟩ := hq
          refine mm_T.seg (f' := (4, [some (.ref 18), some (.int y1), some (.int (y2 + (fX5_loadWide y3 3 I))), some (.int (y3 + 1))], [])) (h' := (107, I, J, mm_rf 3 sp rr w nw)) 4 rfl ?_
          refine mm_T.mask [true, true, true, true] ?_
          exact ih y1 (y2 + (fX5_loadWide y3 3 I)) (y3 + 1) I J 3 sp rr w nw (Or.inl rfl) out e k
        · rw [if_neg h2035] at e
          refine mm_T.seg (f' := (4, [some (.ref 18), some (.int y1), some (.int y2), some (.int (y3 + 1))], [])) (h' := (107, I, J, mm_rf 3 sp rr w nw)) 2 rfl ?_
          refine mm_T.mask [true, true, true, true] ?_
          exact ih y1 y2 (y3 + 1) I J 3 sp rr w nw (Or.inl rfl) out e k
      · rw [if_neg h2034] at e
        cases e
        refine mm_T.mask [false, false, true, false] ?_
        exact k
    · rw [fX7_burdenOf_L4] at e
      refine mm_T.seg (f' := (12, [some (.ref 18), some (.int y1), some (.int y2), some (.int y3)], [(.int (I 19 5)), (.int y3)])) (h' := (107, I, J, mm_rf 19 sp rr w nw)) 4 rfl ?_
      refine mm_T.br (c := y3 < (I 19 5)) (a := ((15, [some (.ref 18), some (.int y1), some (.int y2), some (.int y3)], []), (107, I, J, mm_rf 19 sp rr w nw))) (b := ((41, [some (.ref 18), some (.int y1), some (.int y2), some (.int y3)], []), (107, I, J, mm_rf 19 sp rr w nw))) rfl (fun h2034 => ?_) (fun h2034 => ?_)
      · rw [if_pos h2034] at e
        refine mm_T.seg (f' := (17, [some (.ref 18), some (.int y1), some (.int y2), some (.int y3)], [(.int y3), (.ref 18)])) (h' := (107, I, J, mm_rf 19 sp rr w nw)) 2 rfl ?_
        refine mm_T.call (t := 112) (as := [(.ref 18), (.int y3)]) (f' := (20, [some (.ref 18), some (.int y1), some (.int y2), some (.int y3)], [])) rfl (tX7_placeOf (d + 0) y3 I J 19 sp rr w nw _ rfl) (fun v h hq => ?_)
        obtain ⟨rfl, rfl⟩ := hq
        refine mm_T.seg (f' := (21, [some (.ref 18), some (.int y1), some (.int y2), some (.int y3)], [(.int y1), (.int (fX7_placeOf y3 I))])) (h' := (107, I, J, mm_rf 19 sp rr w nw)) 1 rfl ?_
        refine mm_T.br (c := (fX7_placeOf y3 I) = y1) (a := ((24, [some (.ref 18), some (.int y1), some (.int y2), some (.int y3)], []), (107, I, J, mm_rf 19 sp rr w nw))) (b := ((35, [some (.ref 18), some (.int y1), some (.int y2), some (.int y3)], []), (107, I, J, mm_rf 19 sp rr w nw))) rfl (fun h2035 => ?_) (fun h2035 => ?_)
        · rw [if_pos h2035] at e
          refine mm_T.seg (f' := (30, [some (.ref 18), some (.int y1), some (.int y2), some (.int y3)], [(.int y3), (.ref 19), (.int y2)])) (h' := (107, I, J, mm_rf 19 sp rr w nw)) 4 rfl ?_
          refine mm_T.call (t := 80) (as := [(.ref 19), (.int y3)]) (f' := (33, [some (.ref 18), some (.int y1), some (.int y2), some (.int y3)], [(.int y2)])) rfl (tX5_loadWide (d + 0) y3 19 I J 19 sp rr w nw (Or.inr rfl) _ rfl) (fun v h hq => ?_)
          obtain ⟨rfl, rfl⟩ := hq
          refine mm_T.seg (f' := (4, [some (.ref 18), some (.int y1), some (.int (y2 + (fX5_loadWide y3 19 I))), some (.int (y3 + 1))], [])) (h' := (107, I, J, mm_rf 19 sp rr w nw)) 4 rfl ?_
          refine mm_T.mask [true, true, true, true] ?_
          exact ih y1 (y2 + (fX5_loadWide y3 19 I)) (y3 + 1) I J 19 sp rr w nw (Or.inr rfl) out e k
        · rw [if_neg h2035] at e
          refine mm_T.seg (f' := (4, [some (.ref 18), some (.int y1), some (.int y2), some (.int (y3 + 1))], [])) (h' := (107, I, J, mm_rf 19 sp rr w nw)) 2 rfl ?_
          refine mm_T.mask [true, true, true, true] ?_
          exact ih y1 y2 (y3 + 1) I J 19 sp rr w nw (Or.inr rfl) out e k
      · rw [if_neg h2034] at e
        cases e
        refine mm_T.mask [false, false, true, false] ?_
        exact k
set_option maxRecDepth 100000 in
set_option maxHeartbeats 4000000 in
theorem tX7_burdenOf (d n : Nat) (x1 : Int32) (I : Nat → Nat → Int32) (J : Nat → Nat → Int64) (rv sp rr w nw : Nat) (hrv : rv = 3 ∨ rv = 19) (out : Int32) (e : fX7_burdenOf n x1 I rv = some out) : mm_T none (d + 2) 118 (mm_ent 118 [(.ref 18), (.int x1)]) (107, I, J, mm_rf rv sp rr w nw) (fun v h => v = some (.int out) ∧ h = (107, I, J, mm_rf rv sp rr w nw)) := by
  rcases hrv with rfl | rfl
  · unfold fX7_burdenOf at e
    refine mm_T.seg (f' := (4, [some (.ref 18), some (.int x1), some (.int 0), some (.int 0)], [])) (h' := (107, I, J, mm_rf 3 sp rr w nw)) 4 rfl ?_
    refine mm_T.mask [true, true, true, true] ?_
    obtain ⟨o2036, eo2036, e⟩ := mm_bind e
    refine tlX7_burdenOf_L4 d _ n x1 0 0 I J 3 sp rr w nw (Or.inl rfl) o2036 eo2036 ?_
    refine mm_T.seg (f' := (42, [none, none, some (.int o2036), none], [(.int o2036)])) (h' := (107, I, J, mm_rf 3 sp rr w nw)) 1 rfl ?_
    cases e
    exact mm_T.ret rfl ⟨rfl, rfl⟩
  · unfold fX7_burdenOf at e
    refine mm_T.seg (f' := (4, [some (.ref 18), some (.int x1), some (.int 0), some (.int 0)], [])) (h' := (107, I, J, mm_rf 19 sp rr w nw)) 4 rfl ?_
    refine mm_T.mask [true, true, true, true] ?_
    obtain ⟨o2036, eo2036, e⟩ := mm_bind e
    refine tlX7_burdenOf_L4 d _ n x1 0 0 I J 19 sp rr w nw (Or.inr rfl) o2036 eo2036 ?_
    refine mm_T.seg (f' := (42, [none, none, some (.int o2036), none], [(.int o2036)])) (h' := (107, I, J, mm_rf 19 sp rr w nw)) 1 rfl ?_
    cases e
    exact mm_T.ret rfl ⟨rfl, rfl⟩
set_option maxRecDepth 100000 in
set_option maxHeartbeats 4000000 in
theorem tX7_isAtBank (d : Nat) (x1 : Int32) (I : Nat → Nat → Int32) (J : Nat → Nat → Int64) (rv sp rr w nw : Nat) (hrv : rv = 3 ∨ rv = 19) (out : Int32) (e : fX7_isAtBank x1 I rv = out) : mm_T none (d + 3) 119 (mm_ent 119 [(.ref 18), (.int x1)]) (107, I, J, mm_rf rv sp rr w nw) (fun v h => v = some (.int out) ∧ h = (107, I, J, mm_rf rv sp rr w nw)) := by
  rcases hrv with rfl | rfl
  · unfold fX7_isAtBank at e
    refine mm_T.seg (f' := (2, [some (.ref 18), some (.int x1)], [(.int x1), (.ref 18)])) (h' := (107, I, J, mm_rf 3 sp rr w nw)) 2 rfl ?_
    refine mm_T.call (t := 106) (as := [(.ref 18), (.int x1)]) (f' := (5, [some (.ref 18), some (.int x1)], [])) rfl (tX7_rowOf (d + 0) x1 I J 3 sp rr w nw _ rfl) (fun v h hq => ?_)
    obtain ⟨rfl, rfl⟩ := hq
    refine mm_T.br (c := (fX7_rowOf x1 I) = 0) (a := ((23, [some (.ref 18), some (.int x1)], []), (107, I, J, mm_rf 3 sp rr w nw))) (b := ((8, [some (.ref 18), some (.int x1)], []), (107, I, J, mm_rf 3 sp rr w nw))) rfl (fun h2037 => ?_) (fun h2037 => ?_)
    · rw [if_pos h2037] at e
      refine mm_T.seg (f' := (28, [some (.ref 18), some (.int x1)], [(.int 1)])) (h' := (107, I, J, mm_rf 3 sp rr w nw)) 2 rfl ?_
      cases e
      exact mm_T.ret rfl ⟨rfl, rfl⟩
    · rw [if_neg h2037] at e
      refine mm_T.seg (f' := (10, [some (.ref 18), some (.int x1)], [(.int x1), (.ref 18)])) (h' := (107, I, J, mm_rf 3 sp rr w nw)) 2 rfl ?_
      refine mm_T.call (t := 106) (as := [(.ref 18), (.int x1)]) (f' := (13, [some (.ref 18), some (.int x1)], [])) rfl (tX7_rowOf (d + 0) x1 I J 3 sp rr w nw _ rfl) (fun v h hq => ?_)
      obtain ⟨rfl, rfl⟩ := hq
      refine mm_T.seg (f' := (20, [some (.ref 18), some (.int x1)], [(.int (I 3 1)), (.int (fX7_rowOf x1 I))])) (h' := (107, I, J, mm_rf 3 sp rr w nw)) 3 rfl ?_
      refine mm_T.br (c := (fX7_rowOf x1 I) = (I 3 1)) (a := ((23, [some (.ref 18), some (.int x1)], []), (107, I, J, mm_rf 3 sp rr w nw))) (b := ((27, [some (.ref 18), some (.int x1)], []), (107, I, J, mm_rf 3 sp rr w nw))) rfl (fun h2038 => ?_) (fun h2038 => ?_)
      · rw [if_pos h2038] at e
        refine mm_T.seg (f' := (28, [some (.ref 18), some (.int x1)], [(.int 1)])) (h' := (107, I, J, mm_rf 3 sp rr w nw)) 2 rfl ?_
        cases e
        exact mm_T.ret rfl ⟨rfl, rfl⟩
      · rw [if_neg h2038] at e
        refine mm_T.seg (f' := (28, [some (.ref 18), some (.int x1)], [(.int 0)])) (h' := (107, I, J, mm_rf 3 sp rr w nw)) 1 rfl ?_
        cases e
        exact mm_T.ret rfl ⟨rfl, rfl⟩
  · unfold fX7_isAtBank at e
    refine mm_T.seg (f' := (2, [some (.ref 18), some (.int x1)], [(.int x1), (.ref 18)])) (h' := (107, I, J, mm_rf 19 sp rr w nw)) 2 rfl ?_
    refine mm_T.call (t := 106) (as := [(.ref 18), (.int x1)]) (f' := (5, [some (.ref 18), some (.int x1)], [])) rfl (tX7_rowOf (d + 0) x1 I J 19 sp rr w nw _ rfl) (fun v h hq => ?_)
    obtain ⟨rfl, rfl⟩ := hq
    refine mm_T.br (c := (fX7_rowOf x1 I) = 0) (a := ((23, [some (.ref 18), some (.int x1)], []), (107, I, J, mm_rf 19 sp rr w nw))) (b := ((8, [some (.ref 18), some (.int x1)], []), (107, I, J, mm_rf 19 sp rr w nw))) rfl (fun h2037 => ?_) (fun h2037 => ?_)
    · rw [if_pos h2037] at e
      refine mm_T.seg (f' := (28, [some (.ref 18), some (.int x1)], [(.int 1)])) (h' := (107, I, J, mm_rf 19 sp rr w nw)) 2 rfl ?_
      cases e
      exact mm_T.ret rfl ⟨rfl, rfl⟩
    · rw [if_neg h2037] at e
      refine mm_T.seg (f' := (10, [some (.ref 18), some (.int x1)], [(.int x1), (.ref 18)])) (h' := (107, I, J, mm_rf 19 sp rr w nw)) 2 rfl ?_
      refine mm_T.call (t := 106) (as := [(.ref 18), (.int x1)]) (f' := (13, [some (.ref 18), some (.int x1)], [])) rfl (tX7_rowOf (d + 0) x1 I J 19 sp rr w nw _ rfl) (fun v h hq => ?_)
      obtain ⟨rfl, rfl⟩ := hq
      refine mm_T.seg (f' := (20, [some (.ref 18), some (.int x1)], [(.int (I 19 1)), (.int (fX7_rowOf x1 I))])) (h' := (107, I, J, mm_rf 19 sp rr w nw)) 3 rfl ?_
      refine mm_T.br (c := (fX7_rowOf x1 I) = (I 19 1)) (a := ((23, [some (.ref 18), some (.int x1)], []), (107, I, J, mm_rf 19 sp rr w nw))) (b := ((27, [some (.ref 18), some (.int x1)], []), (107, I, J, mm_rf 19 sp rr w nw))) rfl (fun h2038 => ?_) (fun h2038 => ?_)
      · rw [if_pos h2038] at e
        refine mm_T.seg (f' := (28, [some (.ref 18), some (.int x1)], [(.int 1)])) (h' := (107, I, J, mm_rf 19 sp rr w nw)) 2 rfl ?_
        cases e
        exact mm_T.ret rfl ⟨rfl, rfl⟩
      · rw [if_neg h2038] at e
        refine mm_T.seg (f' := (28, [some (.ref 18), some (.int x1)], [(.int 0)])) (h' := (107, I, J, mm_rf 19 sp rr w nw)) 1 rfl ?_
        cases e
        exact mm_T.ret rfl ⟨rfl, rfl⟩
set_option maxRecDepth 100000 in
set_option maxHeartbeats 4000000 in
theorem tX7_bankOf (d : Nat) (x1 : Int32) (I : Nat → Nat → Int32) (J : Nat → Nat → Int64) (rv sp rr w nw : Nat) (out : Int32) (e : fX7_bankOf x1 I = out) : mm_T none (d + 3) 120 (mm_ent 120 [(.ref 18), (.int x1)]) (107, I, J, mm_rf rv sp rr w nw) (fun v h => v = some (.int out) ∧ h = (107, I, J, mm_rf rv sp rr w nw)) := by
  unfold fX7_bankOf at e
  refine mm_T.seg (f' := (2, [some (.ref 18), some (.int x1)], [(.int x1), (.ref 18)])) (h' := (107, I, J, mm_rf rv sp rr w nw)) 2 rfl ?_
  refine mm_T.call (t := 106) (as := [(.ref 18), (.int x1)]) (f' := (5, [some (.ref 18), some (.int x1)], [])) rfl (tX7_rowOf (d + 0) x1 I J rv sp rr w nw _ rfl) (fun v h hq => ?_)
  obtain ⟨rfl, rfl⟩ := hq
  refine mm_T.br (c := (fX7_rowOf x1 I) = 0) (a := ((8, [some (.ref 18), some (.int x1)], []), (107, I, J, mm_rf rv sp rr w nw))) (b := ((12, [some (.ref 18), some (.int x1)], []), (107, I, J, mm_rf rv sp rr w nw))) rfl (fun h2039 => ?_) (fun h2039 => ?_)
  · rw [if_pos h2039] at e
    refine mm_T.seg (f' := (14, [some (.ref 18), some (.int x1)], [(.int (-1))])) (h' := (107, I, J, mm_rf rv sp rr w nw)) 2 rfl ?_
    cases e
    exact mm_T.ret rfl ⟨rfl, rfl⟩
  · rw [if_neg h2039] at e
    refine mm_T.seg (f' := (14, [some (.ref 18), some (.int x1)], [(.int (-2))])) (h' := (107, I, J, mm_rf rv sp rr w nw)) 1 rfl ?_
    cases e
    exact mm_T.ret rfl ⟨rfl, rfl⟩
set_option maxRecDepth 100000 in
set_option maxHeartbeats 4000000 in
theorem tX7_canPut (d n : Nat) (x1 : Int32) (x2 : Int32) (I : Nat → Nat → Int32) (J : Nat → Nat → Int64) (rv sp rr w nw : Nat) (hrv : rv = 3 ∨ rv = 19) (out : Int32) (e : fX7_canPut n x1 x2 I rv = some out) : mm_T none (d + 4) 121 (mm_ent 121 [(.ref 18), (.int x1), (.int x2)]) (107, I, J, mm_rf rv sp rr w nw) (fun v h => v = some (.int out) ∧ h = (107, I, J, mm_rf rv sp rr w nw)) := by
  rcases hrv with rfl | rfl
  · unfold fX7_canPut at e
    refine mm_T.seg (f' := (2, [some (.ref 18), some (.int x1), some (.int x2)], [(.int x2), (.ref 18)])) (h' := (107, I, J, mm_rf 3 sp rr w nw)) 2 rfl ?_
    refine mm_T.call (t := 119) (as := [(.ref 18), (.int x2)]) (f' := (5, [some (.ref 18), some (.int x1), some (.int x2)], [])) rfl (tX7_isAtBank (d + 0) x2 I J 3 sp rr w nw (Or.inl rfl) _ rfl) (fun v h hq => ?_)
    obtain ⟨rfl, rfl⟩ := hq
    refine mm_T.br (c := (fX7_isAtBank x2 I 3) = 0) (a := ((50, [some (.ref 18), some (.int x1), some (.int x2)], []), (107, I, J, mm_rf 3 sp rr w nw))) (b := ((8, [some (.ref 18), some (.int x1), some (.int x2)], []), (107, I, J, mm_rf 3 sp rr w nw))) rfl (fun h2040 => ?_) (fun h2040 => ?_)
    · rw [if_pos h2040] at e
      refine mm_T.seg (f' := (51, [some (.ref 18), some (.int x1), some (.int x2)], [(.int 0)])) (h' := (107, I, J, mm_rf 3 sp rr w nw)) 1 rfl ?_
      cases e
      exact mm_T.ret rfl ⟨rfl, rfl⟩
    · rw [if_neg h2040] at e
      refine mm_T.seg (f' := (10, [some (.ref 18), some (.int x1), some (.int x2)], [(.int x1), (.ref 18)])) (h' := (107, I, J, mm_rf 3 sp rr w nw)) 2 rfl ?_
      refine mm_T.call (t := 112) (as := [(.ref 18), (.int x1)]) (f' := (13, [some (.ref 18), some (.int x1), some (.int x2)], [])) rfl (tX7_placeOf (d + 2) x1 I J 3 sp rr w nw _ rfl) (fun v h hq => ?_)
      obtain ⟨rfl, rfl⟩ := hq
      refine mm_T.seg (f' := (15, [some (.ref 18), some (.int x1), some (.int x2)], [(.int x2), (.ref 18), (.int (fX7_placeOf x1 I))])) (h' := (107, I, J, mm_rf 3 sp rr w nw)) 2 rfl ?_
      refine mm_T.call (t := 120) (as := [(.ref 18), (.int x2)]) (f' := (18, [some (.ref 18), some (.int x1), some (.int x2)], [(.int (fX7_placeOf x1 I))])) rfl (tX7_bankOf (d + 0) x2 I J 3 sp rr w nw _ rfl) (fun v h hq => ?_)
      obtain ⟨rfl, rfl⟩ := hq
      refine mm_T.br (c := (fX7_placeOf x1 I) = (fX7_bankOf x2 I)) (a := ((21, [some (.ref 18), some (.int x1), some (.int x2)], []), (107, I, J, mm_rf 3 sp rr w nw))) (b := ((50, [some (.ref 18), some (.int x1), some (.int x2)], []), (107, I, J, mm_rf 3 sp rr w nw))) rfl (fun h2041 => ?_) (fun h2041 => ?_)
      · rw [if_pos h2041] at e
        refine mm_T.seg (f' := (23, [some (.ref 18), some (.int x1), some (.int x2)], [(.int x2), (.ref 18)])) (h' := (107, I, J, mm_rf 3 sp rr w nw)) 2 rfl ?_
        obtain ⟨o2042, eo2042, e⟩ := mm_bind e
        refine mm_T.call (t := 118) (as := [(.ref 18), (.int x2)]) (f' := (26, [some (.ref 18), some (.int x1), some (.int x2)], [])) rfl (tX7_burdenOf (d + 1) n x2 I J 3 sp rr w nw (Or.inl rfl) o2042 eo2042) (fun v h hq => ?_)
        obtain ⟨rfl, rfl⟩ := hq
        refine mm_T.seg (f' := (31, [some (.ref 18), some (.int x1), some (.int x2)], [(.int x1), (.ref 3), (.int o2042)])) (h' := (107, I, J, mm_rf 3 sp rr w nw)) 3 rfl ?_
        refine mm_T.call (t := 80) (as := [(.ref 3), (.int x1)]) (f' := (34, [some (.ref 18), some (.int x1), some (.int x2)], [(.int o2042)])) rfl (tX5_loadWide (d + 2) x1 3 I J 3 sp rr w nw (Or.inl rfl) _ rfl) (fun v h hq => ?_)
        obtain ⟨rfl, rfl⟩ := hq
        refine mm_T.seg (f' := (40, [some (.ref 18), some (.int x1), some (.int x2)], [(.int x2), (.ref 3), (.int (o2042 + (fX5_loadWide x1 3 I)))])) (h' := (107, I, J, mm_rf 3 sp rr w nw)) 4 rfl ?_
        refine mm_T.call (t := 77) (as := [(.ref 3), (.int x2)]) (f' := (43, [some (.ref 18), some (.int x1), some (.int x2)], [(.int (o2042 + (fX5_loadWide x1 3 I)))])) rfl (tX5_wideOf (d + 2) x2 3 I J 3 sp rr w nw (Or.inl rfl) _ rfl) (fun v h hq => ?_)
        obtain ⟨rfl, rfl⟩ := hq
        refine mm_T.br (c := (fX5_wideOf x2 3 I) < (o2042 + (fX5_loadWide x1 3 I))) (a := ((50, [some (.ref 18), some (.int x1), some (.int x2)], []), (107, I, J, mm_rf 3 sp rr w nw))) (b := ((46, [some (.ref 18), some (.int x1), some (.int x2)], []), (107, I, J, mm_rf 3 sp rr w nw))) rfl (fun h2043 => ?_) (fun h2043 => ?_)
        · rw [if_pos h2043] at e
          refine mm_T.seg (f' := (51, [some (.ref 18), some (.int x1), some (.int x2)], [(.int 0)])) (h' := (107, I, J, mm_rf 3 sp rr w nw)) 1 rfl ?_
          cases e
          exact mm_T.ret rfl ⟨rfl, rfl⟩
        · rw [if_neg h2043] at e
          refine mm_T.seg (f' := (51, [some (.ref 18), some (.int x1), some (.int x2)], [(.int 1)])) (h' := (107, I, J, mm_rf 3 sp rr w nw)) 2 rfl ?_
          cases e
          exact mm_T.ret rfl ⟨rfl, rfl⟩
      · rw [if_neg h2041] at e
        refine mm_T.seg (f' := (51, [some (.ref 18), some (.int x1), some (.int x2)], [(.int 0)])) (h' := (107, I, J, mm_rf 3 sp rr w nw)) 1 rfl ?_
        cases e
        exact mm_T.ret rfl ⟨rfl, rfl⟩
  · unfold fX7_canPut at e
    refine mm_T.seg (f' := (2, [some (.ref 18), some (.int x1), some (.int x2)], [(.int x2), (.ref 18)])) (h' := (107, I, J, mm_rf 19 sp rr w nw)) 2 rfl ?_
    refine mm_T.call (t := 119) (as := [(.ref 18), (.int x2)]) (f' := (5, [some (.ref 18), some (.int x1), some (.int x2)], [])) rfl (tX7_isAtBank (d + 0) x2 I J 19 sp rr w nw (Or.inr rfl) _ rfl) (fun v h hq => ?_)
    obtain ⟨rfl, rfl⟩ := hq
    refine mm_T.br (c := (fX7_isAtBank x2 I 19) = 0) (a := ((50, [some (.ref 18), some (.int x1), some (.int x2)], []), (107, I, J, mm_rf 19 sp rr w nw))) (b := ((8, [some (.ref 18), some (.int x1), some (.int x2)], []), (107, I, J, mm_rf 19 sp rr w nw))) rfl (fun h2040 => ?_) (fun h2040 => ?_)
    · rw [if_pos h2040] at e
      refine mm_T.seg (f' := (51, [some (.ref 18), some (.int x1), some (.int x2)], [(.int 0)])) (h' := (107, I, J, mm_rf 19 sp rr w nw)) 1 rfl ?_
      cases e
      exact mm_T.ret rfl ⟨rfl, rfl⟩
    · rw [if_neg h2040] at e
      refine mm_T.seg (f' := (10, [some (.ref 18), some (.int x1), some (.int x2)], [(.int x1), (.ref 18)])) (h' := (107, I, J, mm_rf 19 sp rr w nw)) 2 rfl ?_
      refine mm_T.call (t := 112) (as := [(.ref 18), (.int x1)]) (f' := (13, [some (.ref 18), some (.int x1), some (.int x2)], [])) rfl (tX7_placeOf (d + 2) x1 I J 19 sp rr w nw _ rfl) (fun v h hq => ?_)
      obtain ⟨rfl, rfl⟩ := hq
      refine mm_T.seg (f' := (15, [some (.ref 18), some (.int x1), some (.int x2)], [(.int x2), (.ref 18), (.int (fX7_placeOf x1 I))])) (h' := (107, I, J, mm_rf 19 sp rr w nw)) 2 rfl ?_
      refine mm_T.call (t := 120) (as := [(.ref 18), (.int x2)]) (f' := (18, [some (.ref 18), some (.int x1), some (.int x2)], [(.int (fX7_placeOf x1 I))])) rfl (tX7_bankOf (d + 0) x2 I J 19 sp rr w nw _ rfl) (fun v h hq => ?_)
      obtain ⟨rfl, rfl⟩ := hq
      refine mm_T.br (c := (fX7_placeOf x1 I) = (fX7_bankOf x2 I)) (a := ((21, [some (.ref 18), some (.int x1), some (.int x2)], []), (107, I, J, mm_rf 19 sp rr w nw))) (b := ((50, [some (.ref 18), some (.int x1), some (.int x2)], []), (107, I, J, mm_rf 19 sp rr w nw))) rfl (fun h2041 => ?_) (fun h2041 => ?_)
      · rw [if_pos h2041] at e
        refine mm_T.seg (f' := (23, [some (.ref 18), some (.int x1), some (.int x2)], [(.int x2), (.ref 18)])) (h' := (107, I, J, mm_rf 19 sp rr w nw)) 2 rfl ?_
        obtain ⟨o2042, eo2042, e⟩ := mm_bind e
        refine mm_T.call (t := 118) (as := [(.ref 18), (.int x2)]) (f' := (26, [some (.ref 18), some (.int x1), some (.int x2)], [])) rfl (tX7_burdenOf (d + 1) n x2 I J 19 sp rr w nw (Or.inr rfl) o2042 eo2042) (fun v h hq => ?_)
        obtain ⟨rfl, rfl⟩ := hq
        refine mm_T.seg (f' := (31, [some (.ref 18), some (.int x1), some (.int x2)], [(.int x1), (.ref 19), (.int o2042)])) (h' := (107, I, J, mm_rf 19 sp rr w nw)) 3 rfl ?_
        refine mm_T.call (t := 80) (as := [(.ref 19), (.int x1)]) (f' := (34, [some (.ref 18), some (.int x1), some (.int x2)], [(.int o2042)])) rfl (tX5_loadWide (d + 2) x1 19 I J 19 sp rr w nw (Or.inr rfl) _ rfl) (fun v h hq => ?_)
        obtain ⟨rfl, rfl⟩ := hq
        refine mm_T.seg (f' := (40, [some (.ref 18), some (.int x1), some (.int x2)], [(.int x2), (.ref 19), (.int (o2042 + (fX5_loadWide x1 19 I)))])) (h' := (107, I, J, mm_rf 19 sp rr w nw)) 4 rfl ?_
        refine mm_T.call (t := 77) (as := [(.ref 19), (.int x2)]) (f' := (43, [some (.ref 18), some (.int x1), some (.int x2)], [(.int (o2042 + (fX5_loadWide x1 19 I)))])) rfl (tX5_wideOf (d + 2) x2 19 I J 19 sp rr w nw (Or.inr rfl) _ rfl) (fun v h hq => ?_)
        obtain ⟨rfl, rfl⟩ := hq
        refine mm_T.br (c := (fX5_wideOf x2 19 I) < (o2042 + (fX5_loadWide x1 19 I))) (a := ((50, [some (.ref 18), some (.int x1), some (.int x2)], []), (107, I, J, mm_rf 19 sp rr w nw))) (b := ((46, [some (.ref 18), some (.int x1), some (.int x2)], []), (107, I, J, mm_rf 19 sp rr w nw))) rfl (fun h2043 => ?_) (fun h2043 => ?_)
        · rw [if_pos h2043] at e
          refine mm_T.seg (f' := (51, [some (.ref 18), some (.int x1), some (.int x2)], [(.int 0)])) (h' := (107, I, J, mm_rf 19 sp rr w nw)) 1 rfl ?_
          cases e
          exact mm_T.ret rfl ⟨rfl, rfl⟩
        · rw [if_neg h2043] at e
          refine mm_T.seg (f' := (51, [some (.ref 18), some (.int x1), some (.int x2)], [(.int 1)])) (h' := (107, I, J, mm_rf 19 sp rr w nw)) 2 rfl ?_
          cases e
          exact mm_T.ret rfl ⟨rfl, rfl⟩
      · rw [if_neg h2041] at e
        refine mm_T.seg (f' := (51, [some (.ref 18), some (.int x1), some (.int x2)], [(.int 0)])) (h' := (107, I, J, mm_rf 19 sp rr w nw)) 1 rfl ?_
        cases e
        exact mm_T.ret rfl ⟨rfl, rfl⟩
set_option maxRecDepth 100000 in
set_option maxHeartbeats 4000000 in
theorem tX7_canStroke (d : Nat) (x1 : Int32) (x2 : Int32) (I : Nat → Nat → Int32) (J : Nat → Nat → Int64) (rv sp rr w nw : Nat) (hrv : rv = 3 ∨ rv = 19) (out : Int32) (e : fX7_canStroke x1 x2 I rv = out) : mm_T none (d + 3) 122 (mm_ent 122 [(.ref 18), (.int x1), (.int x2)]) (107, I, J, mm_rf rv sp rr w nw) (fun v h => v = some (.int out) ∧ h = (107, I, J, mm_rf rv sp rr w nw)) := by
  rcases hrv with rfl | rfl
  · unfold fX7_canStroke at e
    refine mm_T.seg (f' := (1, [some (.ref 18), some (.int x1), some (.int x2)], [(.int x2)])) (h' := (107, I, J, mm_rf 3 sp rr w nw)) 1 rfl ?_
    refine mm_T.br (c := x2 = 0) (a := ((27, [some (.ref 18), some (.int x1), some (.int x2)], []), (107, I, J, mm_rf 3 sp rr w nw))) (b := ((4, [some (.ref 18), some (.int x1), some (.int x2)], []), (107, I, J, mm_rf 3 sp rr w nw))) rfl (fun h2044 => ?_) (fun h2044 => ?_)
    · rw [if_pos h2044] at e
      refine mm_T.seg (f' := (29, [some (.ref 18), some (.int x1), some (.int x2)], [(.int x1), (.ref 18)])) (h' := (107, I, J, mm_rf 3 sp rr w nw)) 2 rfl ?_
      refine mm_T.call (t := 106) (as := [(.ref 18), (.int x1)]) (f' := (32, [some (.ref 18), some (.int x1), some (.int x2)], [])) rfl (tX7_rowOf (d + 0) x1 I J 3 sp rr w nw _ rfl) (fun v h hq => ?_)
      obtain ⟨rfl, rfl⟩ := hq
      refine mm_T.br (c := 0 < (fX7_rowOf x1 I)) (a := ((35, [some (.ref 18), some (.int x1), some (.int x2)], []), (107, I, J, mm_rf 3 sp rr w nw))) (b := ((39, [some (.ref 18), some (.int x1), some (.int x2)], []), (107, I, J, mm_rf 3 sp rr w nw))) rfl (fun h2045 => ?_) (fun h2045 => ?_)
      · rw [if_pos h2045] at e
        refine mm_T.seg (f' := (40, [some (.ref 18), some (.int x1), some (.int x2)], [(.int 1)])) (h' := (107, I, J, mm_rf 3 sp rr w nw)) 2 rfl ?_
        cases e
        exact mm_T.ret rfl ⟨rfl, rfl⟩
      · rw [if_neg h2045] at e
        refine mm_T.seg (f' := (40, [some (.ref 18), some (.int x1), some (.int x2)], [(.int 0)])) (h' := (107, I, J, mm_rf 3 sp rr w nw)) 1 rfl ?_
        cases e
        exact mm_T.ret rfl ⟨rfl, rfl⟩
    · rw [if_neg h2044] at e
      refine mm_T.seg (f' := (6, [some (.ref 18), some (.int x1), some (.int x2)], [(.int x1), (.ref 18)])) (h' := (107, I, J, mm_rf 3 sp rr w nw)) 2 rfl ?_
      refine mm_T.call (t := 106) (as := [(.ref 18), (.int x1)]) (f' := (9, [some (.ref 18), some (.int x1), some (.int x2)], [])) rfl (tX7_rowOf (d + 0) x1 I J 3 sp rr w nw _ rfl) (fun v h hq => ?_)
      obtain ⟨rfl, rfl⟩ := hq
      refine mm_T.seg (f' := (16, [some (.ref 18), some (.int x1), some (.int x2)], [(.int (I 3 1)), (.int (fX7_rowOf x1 I))])) (h' := (107, I, J, mm_rf 3 sp rr w nw)) 3 rfl ?_
      refine mm_T.br (c := (fX7_rowOf x1 I) < (I 3 1)) (a := ((19, [some (.ref 18), some (.int x1), some (.int x2)], []), (107, I, J, mm_rf 3 sp rr w nw))) (b := ((23, [some (.ref 18), some (.int x1), some (.int x2)], []), (107, I, J, mm_rf 3 sp rr w nw))) rfl (fun h2046 => ?_) (fun h2046 => ?_)
      · rw [if_pos h2046] at e
        refine mm_T.seg (f' := (40, [some (.ref 18), some (.int x1), some (.int x2)], [(.int 1)])) (h' := (107, I, J, mm_rf 3 sp rr w nw)) 2 rfl ?_
        cases e
        exact mm_T.ret rfl ⟨rfl, rfl⟩
      · rw [if_neg h2046] at e
        refine mm_T.seg (f' := (40, [some (.ref 18), some (.int x1), some (.int x2)], [(.int 0)])) (h' := (107, I, J, mm_rf 3 sp rr w nw)) 2 rfl ?_
        cases e
        exact mm_T.ret rfl ⟨rfl, rfl⟩
  · unfold fX7_canStroke at e
    refine mm_T.seg (f' := (1, [some (.ref 18), some (.int x1), some (.int x2)], [(.int x2)])) (h' := (107, I, J, mm_rf 19 sp rr w nw)) 1 rfl ?_
    refine mm_T.br (c := x2 = 0) (a := ((27, [some (.ref 18), some (.int x1), some (.int x2)], []), (107, I, J, mm_rf 19 sp rr w nw))) (b := ((4, [some (.ref 18), some (.int x1), some (.int x2)], []), (107, I, J, mm_rf 19 sp rr w nw))) rfl (fun h2044 => ?_) (fun h2044 => ?_)
    · rw [if_pos h2044] at e
      refine mm_T.seg (f' := (29, [some (.ref 18), some (.int x1), some (.int x2)], [(.int x1), (.ref 18)])) (h' := (107, I, J, mm_rf 19 sp rr w nw)) 2 rfl ?_
      refine mm_T.call (t := 106) (as := [(.ref 18), (.int x1)]) (f' := (32, [some (.ref 18), some (.int x1), some (.int x2)], [])) rfl (tX7_rowOf (d + 0) x1 I J 19 sp rr w nw _ rfl) (fun v h hq => ?_)
      obtain ⟨rfl, rfl⟩ := hq
      refine mm_T.br (c := 0 < (fX7_rowOf x1 I)) (a := ((35, [some (.ref 18), some (.int x1), some (.int x2)], []), (107, I, J, mm_rf 19 sp rr w nw))) (b := ((39, [some (.ref 18), some (.int x1), some (.int x2)], []), (107, I, J, mm_rf 19 sp rr w nw))) rfl (fun h2045 => ?_) (fun h2045 => ?_)
      · rw [if_pos h2045] at e
        refine mm_T.seg (f' := (40, [some (.ref 18), some (.int x1), some (.int x2)], [(.int 1)])) (h' := (107, I, J, mm_rf 19 sp rr w nw)) 2 rfl ?_
        cases e
        exact mm_T.ret rfl ⟨rfl, rfl⟩
      · rw [if_neg h2045] at e
        refine mm_T.seg (f' := (40, [some (.ref 18), some (.int x1), some (.int x2)], [(.int 0)])) (h' := (107, I, J, mm_rf 19 sp rr w nw)) 1 rfl ?_
        cases e
        exact mm_T.ret rfl ⟨rfl, rfl⟩
    · rw [if_neg h2044] at e
      refine mm_T.seg (f' := (6, [some (.ref 18), some (.int x1), some (.int x2)], [(.int x1), (.ref 18)])) (h' := (107, I, J, mm_rf 19 sp rr w nw)) 2 rfl ?_
      refine mm_T.call (t := 106) (as := [(.ref 18), (.int x1)]) (f' := (9, [some (.ref 18), some (.int x1), some (.int x2)], [])) rfl (tX7_rowOf (d + 0) x1 I J 19 sp rr w nw _ rfl) (fun v h hq => ?_)
      obtain ⟨rfl, rfl⟩ := hq
      refine mm_T.seg (f' := (16, [some (.ref 18), some (.int x1), some (.int x2)], [(.int (I 19 1)), (.int (fX7_rowOf x1 I))])) (h' := (107, I, J, mm_rf 19 sp rr w nw)) 3 rfl ?_
      refine mm_T.br (c := (fX7_rowOf x1 I) < (I 19 1)) (a := ((19, [some (.ref 18), some (.int x1), some (.int x2)], []), (107, I, J, mm_rf 19 sp rr w nw))) (b := ((23, [some (.ref 18), some (.int x1), some (.int x2)], []), (107, I, J, mm_rf 19 sp rr w nw))) rfl (fun h2046 => ?_) (fun h2046 => ?_)
      · rw [if_pos h2046] at e
        refine mm_T.seg (f' := (40, [some (.ref 18), some (.int x1), some (.int x2)], [(.int 1)])) (h' := (107, I, J, mm_rf 19 sp rr w nw)) 2 rfl ?_
        cases e
        exact mm_T.ret rfl ⟨rfl, rfl⟩
      · rw [if_neg h2046] at e
        refine mm_T.seg (f' := (40, [some (.ref 18), some (.int x1), some (.int x2)], [(.int 0)])) (h' := (107, I, J, mm_rf 19 sp rr w nw)) 2 rfl ?_
        cases e
        exact mm_T.ret rfl ⟨rfl, rfl⟩
set_option maxRecDepth 100000 in
set_option maxHeartbeats 4000000 in
theorem tX7_nextWarmth (d n : Nat) (x1 : Int32) (I : Nat → Nat → Int32) (J : Nat → Nat → Int64) (rv sp rr w nw : Nat) (hrv : rv = 3 ∨ rv = 19) (out : Int32 × (Nat → Nat → Int32)) (e : fX7_nextWarmth n x1 I rv = some out) : mm_T none (d + 3) 123 (mm_ent 123 [(.ref 18), (.int x1)]) (107, I, J, mm_rf rv sp rr w nw) (fun v h => v = some (.int out.1) ∧ h = (107, out.2, J, mm_rf rv sp rr w nw)) := by
  rcases hrv with rfl | rfl
  · unfold fX7_nextWarmth at e
    refine mm_T.seg (f' := (7, [some (.ref 18), some (.int x1)], [(.int x1), (.ref 18), (.int x1), (.ref 3)])) (h' := (107, I, J, mm_rf 3 sp rr w nw)) 5 rfl ?_
    refine mm_T.call (t := 106) (as := [(.ref 18), (.int x1)]) (f' := (10, [some (.ref 18), some (.int x1)], [(.int x1), (.ref 3)])) rfl (tX7_rowOf (d + 0) x1 I J 3 sp rr w nw _ rfl) (fun v h hq => ?_)
    obtain ⟨rfl, rfl⟩ := hq
    refine mm_T.seg (f' := (12, [some (.ref 18), some (.int x1)], [(.int x1), (.ref 18), (.int (fX7_rowOf x1 I)), (.int x1), (.ref 3)])) (h' := (107, I, J, mm_rf 3 sp rr w nw)) 2 rfl ?_
    refine mm_T.call (t := 105) (as := [(.ref 18), (.int x1)]) (f' := (15, [some (.ref 18), some (.int x1)], [(.int (fX7_rowOf x1 I)), (.int x1), (.ref 3)])) rfl (tX7_columnOf (d + 0) x1 I J 3 sp rr w nw _ rfl) (fun v h hq => ?_)
    obtain ⟨rfl, rfl⟩ := hq
    refine mm_T.seg (f' := (17, [some (.ref 18), some (.int x1)], [(.int x1), (.ref 18), (.int (fX7_columnOf x1 I)), (.int (fX7_rowOf x1 I)), (.int x1), (.ref 3)])) (h' := (107, I, J, mm_rf 3 sp rr w nw)) 2 rfl ?_
    obtain ⟨o2047, eo2047, e⟩ := mm_bind e
    refine mm_T.call (t := 118) (as := [(.ref 18), (.int x1)]) (f' := (20, [some (.ref 18), some (.int x1)], [(.int (fX7_columnOf x1 I)), (.int (fX7_rowOf x1 I)), (.int x1), (.ref 3)])) rfl (tX7_burdenOf (d + 0) n x1 I J 3 sp rr w nw (Or.inl rfl) o2047 eo2047) (fun v h hq => ?_)
    obtain ⟨rfl, rfl⟩ := hq
    refine mm_T.seg (f' := (22, [some (.ref 18), some (.int x1)], [(.int x1), (.ref 18), (.int o2047), (.int (fX7_columnOf x1 I)), (.int (fX7_rowOf x1 I)), (.int x1), (.ref 3)])) (h' := (107, I, J, mm_rf 3 sp rr w nw)) 2 rfl ?_
    refine mm_T.call (t := 110) (as := [(.ref 18), (.int x1)]) (f' := (25, [some (.ref 18), some (.int x1)], [(.int o2047), (.int (fX7_columnOf x1 I)), (.int (fX7_rowOf x1 I)), (.int x1), (.ref 3)])) rfl (tX7_strokesOf (d + 0) x1 I J 3 sp rr w nw _ rfl) (fun v h hq => ?_)
    obtain ⟨rfl, rfl⟩ := hq
    refine mm_T.seg (f' := (27, [some (.ref 18), some (.int x1)], [(.int x1), (.ref 18), (.int (fX7_strokesOf x1 I)), (.int o2047), (.int (fX7_columnOf x1 I)), (.int (fX7_rowOf x1 I)), (.int x1), (.ref 3)])) (h' := (107, I, J, mm_rf 3 sp rr w nw)) 2 rfl ?_
    refine mm_T.call (t := 107) (as := [(.ref 18), (.int x1)]) (f' := (30, [some (.ref 18), some (.int x1)], [(.int (fX7_strokesOf x1 I)), (.int o2047), (.int (fX7_columnOf x1 I)), (.int (fX7_rowOf x1 I)), (.int x1), (.ref 3)])) rfl (tX7_heatOf (d + 0) x1 I J 3 sp rr w nw _ rfl) (fun v h hq => ?_)
    obtain ⟨rfl, rfl⟩ := hq
    obtain ⟨o2048, eo2048, e⟩ := mm_bind e
    refine mm_T.call (t := 82) (as := [(.ref 3), (.int x1), (.int (fX7_rowOf x1 I)), (.int (fX7_columnOf x1 I)), (.int o2047), (.int (fX7_strokesOf x1 I)), (.int (fX7_heatOf x1 I))]) (f' := (33, [some (.ref 18), some (.int x1)], [])) rfl (tX5_warmth (d + 0) n x1 (fX7_rowOf x1 I) (fX7_columnOf x1 I) o2047 (fX7_strokesOf x1 I) (fX7_heatOf x1 I) 3 I J 3 sp rr w nw (Or.inl rfl) o2048 eo2048) (fun v h hq => ?_)
    obtain ⟨rfl, rfl⟩ := hq
    cases e
    exact mm_T.ret rfl ⟨rfl, rfl⟩
  · unfold fX7_nextWarmth at e
    refine mm_T.seg (f' := (7, [some (.ref 18), some (.int x1)], [(.int x1), (.ref 18), (.int x1), (.ref 19)])) (h' := (107, I, J, mm_rf 19 sp rr w nw)) 5 rfl ?_
    refine mm_T.call (t := 106) (as := [(.ref 18), (.int x1)]) (f' := (10, [some (.ref 18), some (.int x1)], [(.int x1), (.ref 19)])) rfl (tX7_rowOf (d + 0) x1 I J 19 sp rr w nw _ rfl) (fun v h hq => ?_)
    obtain ⟨rfl, rfl⟩ := hq
    refine mm_T.seg (f' := (12, [some (.ref 18), some (.int x1)], [(.int x1), (.ref 18), (.int (fX7_rowOf x1 I)), (.int x1), (.ref 19)])) (h' := (107, I, J, mm_rf 19 sp rr w nw)) 2 rfl ?_
    refine mm_T.call (t := 105) (as := [(.ref 18), (.int x1)]) (f' := (15, [some (.ref 18), some (.int x1)], [(.int (fX7_rowOf x1 I)), (.int x1), (.ref 19)])) rfl (tX7_columnOf (d + 0) x1 I J 19 sp rr w nw _ rfl) (fun v h hq => ?_)
    obtain ⟨rfl, rfl⟩ := hq
    refine mm_T.seg (f' := (17, [some (.ref 18), some (.int x1)], [(.int x1), (.ref 18), (.int (fX7_columnOf x1 I)), (.int (fX7_rowOf x1 I)), (.int x1), (.ref 19)])) (h' := (107, I, J, mm_rf 19 sp rr w nw)) 2 rfl ?_
    obtain ⟨o2047, eo2047, e⟩ := mm_bind e
    refine mm_T.call (t := 118) (as := [(.ref 18), (.int x1)]) (f' := (20, [some (.ref 18), some (.int x1)], [(.int (fX7_columnOf x1 I)), (.int (fX7_rowOf x1 I)), (.int x1), (.ref 19)])) rfl (tX7_burdenOf (d + 0) n x1 I J 19 sp rr w nw (Or.inr rfl) o2047 eo2047) (fun v h hq => ?_)
    obtain ⟨rfl, rfl⟩ := hq
    refine mm_T.seg (f' := (22, [some (.ref 18), some (.int x1)], [(.int x1), (.ref 18), (.int o2047), (.int (fX7_columnOf x1 I)), (.int (fX7_rowOf x1 I)), (.int x1), (.ref 19)])) (h' := (107, I, J, mm_rf 19 sp rr w nw)) 2 rfl ?_
    refine mm_T.call (t := 110) (as := [(.ref 18), (.int x1)]) (f' := (25, [some (.ref 18), some (.int x1)], [(.int o2047), (.int (fX7_columnOf x1 I)), (.int (fX7_rowOf x1 I)), (.int x1), (.ref 19)])) rfl (tX7_strokesOf (d + 0) x1 I J 19 sp rr w nw _ rfl) (fun v h hq => ?_)
    obtain ⟨rfl, rfl⟩ := hq
    refine mm_T.seg (f' := (27, [some (.ref 18), some (.int x1)], [(.int x1), (.ref 18), (.int (fX7_strokesOf x1 I)), (.int o2047), (.int (fX7_columnOf x1 I)), (.int (fX7_rowOf x1 I)), (.int x1), (.ref 19)])) (h' := (107, I, J, mm_rf 19 sp rr w nw)) 2 rfl ?_
    refine mm_T.call (t := 107) (as := [(.ref 18), (.int x1)]) (f' := (30, [some (.ref 18), some (.int x1)], [(.int (fX7_strokesOf x1 I)), (.int o2047), (.int (fX7_columnOf x1 I)), (.int (fX7_rowOf x1 I)), (.int x1), (.ref 19)])) rfl (tX7_heatOf (d + 0) x1 I J 19 sp rr w nw _ rfl) (fun v h hq => ?_)
    obtain ⟨rfl, rfl⟩ := hq
    obtain ⟨o2048, eo2048, e⟩ := mm_bind e
    refine mm_T.call (t := 82) (as := [(.ref 19), (.int x1), (.int (fX7_rowOf x1 I)), (.int (fX7_columnOf x1 I)), (.int o2047), (.int (fX7_strokesOf x1 I)), (.int (fX7_heatOf x1 I))]) (f' := (33, [some (.ref 18), some (.int x1)], [])) rfl (tX5_warmth (d + 0) n x1 (fX7_rowOf x1 I) (fX7_columnOf x1 I) o2047 (fX7_strokesOf x1 I) (fX7_heatOf x1 I) 19 I J 19 sp rr w nw (Or.inr rfl) o2048 eo2048) (fun v h hq => ?_)
    obtain ⟨rfl, rfl⟩ := hq
    cases e
    exact mm_T.ret rfl ⟨rfl, rfl⟩
set_option maxRecDepth 100000 in
set_option maxHeartbeats 4000000 in
theorem tbX7_makeStroke_J223 (d : Nat) (y9 : Int32) (u0 : Int32) (I : Nat → Nat → Int32) (J : Nat → Nat → Int64) (rv sp rr w nw : Nat) (out : Int32 × (Nat → Nat → Int32)) (e : fX7_makeStroke_J223 y9 u0 I = some out) : mm_T none (d + 4) 124 (223, [none, none, none, none, none, none, none, none, none, some (.int y9)], [(.int u0)]) (107, I, J, mm_rf rv sp rr w nw) (fun v h => v = some (.int out.1) ∧ h = (107, out.2, J, mm_rf rv sp rr w nw)) := by
  unfold fX7_makeStroke_J223 at e
  refine mm_T.seg (f' := (225, [none, none, none, none, none, none, none, none, none, some (.int y9)], [(.int y9), (.int u0)])) (h' := (107, I, J, mm_rf rv sp rr w nw)) 1 rfl ?_
  refine mm_T.br (c := y9 = 0) (a := ((232, [none, none, none, none, none, none, none, none, none, some (.int y9)], [(.int u0)]), (107, I, J, mm_rf rv sp rr w nw))) (b := ((228, [none, none, none, none, none, none, none, none, none, some (.int y9)], [(.int u0)]), (107, I, J, mm_rf rv sp rr w nw))) rfl (fun h2057 => ?_) (fun h2057 => ?_)
  · rw [if_pos h2057] at e
    refine mm_T.seg (f' := (234, [none, none, none, none, none, none, none, none, none, some (.int y9)], [(.int (u0 + 0))])) (h' := (107, I, J, mm_rf rv sp rr w nw)) 2 rfl ?_
    cases e
    exact mm_T.ret rfl ⟨rfl, rfl⟩
  · rw [if_neg h2057] at e
    refine mm_T.seg (f' := (234, [none, none, none, none, none, none, none, none, none, some (.int y9)], [(.int (u0 + 2))])) (h' := (107, I, J, mm_rf rv sp rr w nw)) 3 rfl ?_
    cases e
    exact mm_T.ret rfl ⟨rfl, rfl⟩
set_option maxRecDepth 100000 in
set_option maxHeartbeats 4000000 in
theorem tbX7_makeStroke_J197 (d : Nat) (y1 : Int32) (y8 : Int32) (y9 : Int32) (u0 : Int32) (u1 : Int32) (u2 : Int32) (I : Nat → Nat → Int32) (J : Nat → Nat → Int64) (rv sp rr w nw : Nat) (out : Int32 × (Nat → Nat → Int32)) (e : fX7_makeStroke_J197 y1 y8 y9 u0 u1 u2 I = some out) : mm_T none (d + 4) 124 (197, [some (.ref 18), some (.int y1), none, none, none, none, none, none, some (.int y8), some (.int y9)], [(.int u0), (.int u1), (.int u2), (.ref 18)]) (107, I, J, mm_rf rv sp rr w nw) (fun v h => v = some (.int out.1) ∧ h = (107, out.2, J, mm_rf rv sp rr w nw)) := by
  unfold fX7_makeStroke_J197 at e
  refine mm_T.call (t := 104) (as := [(.ref 18), (.int u2), (.int u1), (.int u0)]) (f' := (200, [some (.ref 18), some (.int y1), none, none, none, none, none, none, some (.int y8), some (.int y9)], [])) rfl (tX7_set (d + 2) u2 u1 u0 I J rv sp rr w nw _ rfl) (fun v h hq => ?_)
  obtain ⟨rfl, rfl⟩ := hq
  refine mm_T.seg (f' := (205, [some (.ref 18), some (.int y1), none, none, none, none, none, none, some (.int y8), some (.int y9)], [(.int y1), (.ref 18), (.int 4), (.int y1), (.ref 18)])) (h' := (107, (fX7_set u2 u1 u0 I), J, mm_rf rv sp rr w nw)) 5 rfl ?_
  refine mm_T.call (t := 110) (as := [(.ref 18), (.int y1)]) (f' := (208, [some (.ref 18), some (.int y1), none, none, none, none, none, none, some (.int y8), some (.int y9)], [(.int 4), (.int y1), (.ref 18)])) rfl (tX7_strokesOf (d + 1) y1 (fX7_set u2 u1 u0 I) J rv sp rr w nw _ rfl) (fun v h hq => ?_)
  obtain ⟨rfl, rfl⟩ := hq
  refine mm_T.seg (f' := (210, [some (.ref 18), some (.int y1), none, none, none, none, none, none, some (.int y8), some (.int y9)], [(.int ((fX7_strokesOf y1 (fX7_set u2 u1 u0 I)) + 1)), (.int 4), (.int y1), (.ref 18)])) (h' := (107, (fX7_set u2 u1 u0 I), J, mm_rf rv sp rr w nw)) 2 rfl ?_
  refine mm_T.call (t := 104) (as := [(.ref 18), (.int y1), (.int 4), (.int ((fX7_strokesOf y1 (fX7_set u2 u1 u0 I)) + 1))]) (f' := (213, [some (.ref 18), some (.int y1), none, none, none, none, none, none, some (.int y8), some (.int y9)], [])) rfl (tX7_set (d + 2) y1 4 ((fX7_strokesOf y1 (fX7_set u2 u1 u0 I)) + 1) (fX7_set u2 u1 u0 I) J rv sp rr w nw _ rfl) (fun v h hq => ?_)
  obtain ⟨rfl, rfl⟩ := hq
  refine mm_T.seg (f' := (215, [some (.ref 18), some (.int y1), none, none, none, none, none, none, some (.int y8), some (.int y9)], [(.int y8)])) (h' := (107, (fX7_set y1 4 ((fX7_strokesOf y1 (fX7_set u2 u1 u0 I)) + 1) (fX7_set u2 u1 u0 I)), J, mm_rf rv sp rr w nw)) 1 rfl ?_
  refine mm_T.br (c := y8 = 0) (a := ((222, [some (.ref 18), some (.int y1), none, none, none, none, none, none, some (.int y8), some (.int y9)], []), (107, (fX7_set y1 4 ((fX7_strokesOf y1 (fX7_set u2 u1 u0 I)) + 1) (fX7_set u2 u1 u0 I)), J, mm_rf rv sp rr w nw))) (b := ((218, [some (.ref 18), some (.int y1), none, none, none, none, none, none, some (.int y8), some (.int y9)], []), (107, (fX7_set y1 4 ((fX7_strokesOf y1 (fX7_set u2 u1 u0 I)) + 1) (fX7_set u2 u1 u0 I)), J, mm_rf rv sp rr w nw))) rfl (fun h2056 => ?_) (fun h2056 => ?_)
  · rw [if_pos h2056] at e
    refine mm_T.seg (f' := (223, [some (.ref 18), some (.int y1), none, none, none, none, none, none, some (.int y8), some (.int y9)], [(.int 0)])) (h' := (107, (fX7_set y1 4 ((fX7_strokesOf y1 (fX7_set u2 u1 u0 I)) + 1) (fX7_set u2 u1 u0 I)), J, mm_rf rv sp rr w nw)) 1 rfl ?_
    refine mm_T.mask [false, false, false, false, false, false, false, false, false, true] ?_
    exact tbX7_makeStroke_J223 d y9 0 (fX7_set y1 4 ((fX7_strokesOf y1 (fX7_set u2 u1 u0 I)) + 1) (fX7_set u2 u1 u0 I)) J rv sp rr w nw out e
  · rw [if_neg h2056] at e
    refine mm_T.seg (f' := (223, [some (.ref 18), some (.int y1), none, none, none, none, none, none, some (.int y8), some (.int y9)], [(.int 1)])) (h' := (107, (fX7_set y1 4 ((fX7_strokesOf y1 (fX7_set u2 u1 u0 I)) + 1) (fX7_set u2 u1 u0 I)), J, mm_rf rv sp rr w nw)) 2 rfl ?_
    refine mm_T.mask [false, false, false, false, false, false, false, false, false, true] ?_
    exact tbX7_makeStroke_J223 d y9 1 (fX7_set y1 4 ((fX7_strokesOf y1 (fX7_set u2 u1 u0 I)) + 1) (fX7_set u2 u1 u0 I)) J rv sp rr w nw out e
set_option maxRecDepth 100000 in
set_option maxHeartbeats 4000000 in
theorem tbX7_makeStroke_J183 (d : Nat) (y1 : Int32) (y5 : Int32) (y8 : Int32) (y9 : Int32) (I : Nat → Nat → Int32) (J : Nat → Nat → Int64) (rv sp rr w nw : Nat) (out : Int32 × (Nat → Nat → Int32)) (e : fX7_makeStroke_J183 y1 y5 y8 y9 I = some out) : mm_T none (d + 4) 124 (183, [some (.ref 18), some (.int y1), none, none, none, some (.int y5), none, none, some (.int y8), some (.int y9)], []) (107, I, J, mm_rf rv sp rr w nw) (fun v h => v = some (.int out.1) ∧ h = (107, out.2, J, mm_rf rv sp rr w nw)) := by
  unfold fX7_makeStroke_J183 at e
  refine mm_T.seg (f' := (188, [some (.ref 18), some (.int y1), none, none, none, some (.int y5), none, none, some (.int y8), some (.int y9)], [(.int y9), (.int 2), (.int y1), (.ref 18)])) (h' := (107, I, J, mm_rf rv sp rr w nw)) 4 rfl ?_
  refine mm_T.br (c := y9 = 0) (a := ((195, [some (.ref 18), some (.int y1), none, none, none, some (.int y5), none, none, some (.int y8), some (.int y9)], [(.int 2), (.int y1), (.ref 18)]), (107, I, J, mm_rf rv sp rr w nw))) (b := ((191, [some (.ref 18), some (.int y1), none, none, none, some (.int y5), none, none, some (.int y8), some (.int y9)], [(.int 2), (.int y1), (.ref 18)]), (107, I, J, mm_rf rv sp rr w nw))) rfl (fun h2055 => ?_) (fun h2055 => ?_)
  · rw [if_pos h2055] at e
    refine mm_T.seg (f' := (197, [some (.ref 18), some (.int y1), none, none, none, some (.int y5), none, none, some (.int y8), some (.int y9)], [(.int y5), (.int 2), (.int y1), (.ref 18)])) (h' := (107, I, J, mm_rf rv sp rr w nw)) 1 rfl ?_
    refine mm_T.mask [true, true, false, false, false, false, false, false, true, true] ?_
    exact tbX7_makeStroke_J197 d y1 y8 y9 y5 2 y1 I J rv sp rr w nw out e
  · rw [if_neg h2055] at e
    refine mm_T.seg (f' := (197, [some (.ref 18), some (.int y1), none, none, none, some (.int y5), none, none, some (.int y8), some (.int y9)], [(.int 0), (.int 2), (.int y1), (.ref 18)])) (h' := (107, I, J, mm_rf rv sp rr w nw)) 2 rfl ?_
    refine mm_T.mask [true, true, false, false, false, false, false, false, true, true] ?_
    exact tbX7_makeStroke_J197 d y1 y8 y9 0 2 y1 I J rv sp rr w nw out e
set_option maxRecDepth 100000 in
set_option maxHeartbeats 4000000 in
theorem tbX7_makeStroke_J159 (d : Nat) (y1 : Int32) (y5 : Int32) (y8 : Int32) (y9 : Int32) (I : Nat → Nat → Int32) (J : Nat → Nat → Int64) (rv sp rr w nw : Nat) (out : Int32 × (Nat → Nat → Int32)) (e : fX7_makeStroke_J159 y1 y5 y8 y9 I = some out) : mm_T none (d + 4) 124 (159, [some (.ref 18), some (.int y1), none, none, none, some (.int y5), none, none, some (.int y8), some (.int y9)], []) (107, I, J, mm_rf rv sp rr w nw) (fun v h => v = some (.int out.1) ∧ h = (107, out.2, J, mm_rf rv sp rr w nw)) := by
  unfold fX7_makeStroke_J159 at e
  refine mm_T.seg (f' := (161, [some (.ref 18), some (.int y1), none, none, none, some (.int y5), none, none, some (.int y8), some (.int y9)], [(.int y9)])) (h' := (107, I, J, mm_rf rv sp rr w nw)) 1 rfl ?_
  refine mm_T.br (c := y9 = 0) (a := ((183, [some (.ref 18), some (.int y1), none, none, none, some (.int y5), none, none, some (.int y8), some (.int y9)], []), (107, I, J, mm_rf rv sp rr w nw))) (b := ((164, [some (.ref 18), some (.int y1), none, none, none, some (.int y5), none, none, some (.int y8), some (.int y9)], []), (107, I, J, mm_rf rv sp rr w nw))) rfl (fun h2054 => ?_) (fun h2054 => ?_)
  · rw [if_pos h2054] at e
    refine mm_T.mask [true, true, false, false, false, true, false, false, true, true] ?_
    exact tbX7_makeStroke_J183 d y1 y5 y8 y9 I J rv sp rr w nw out e
  · rw [if_neg h2054] at e
    refine mm_T.seg (f' := (172, [some (.ref 18), some (.int y1), none, none, none, some (.int y5), none, none, some (.int y8), some (.int y9)], [(.int y1), (.ref 18), (.int 999), (.int 3), (.int y1), (.ref 18)])) (h' := (107, I, J, mm_rf rv sp rr w nw)) 6 rfl ?_
    refine mm_T.call (t := 109) (as := [(.ref 18), (.int y1)]) (f' := (175, [some (.ref 18), some (.int y1), none, none, none, some (.int y5), none, none, some (.int y8), some (.int y9)], [(.int 999), (.int 3), (.int y1), (.ref 18)])) rfl (tX7_scorchesOf (d + 1) y1 I J rv sp rr w nw _ rfl) (fun v h hq => ?_)
    obtain ⟨rfl, rfl⟩ := hq
    refine mm_T.seg (f' := (177, [some (.ref 18), some (.int y1), none, none, none, some (.int y5), none, none, some (.int y8), some (.int y9)], [(.int ((fX7_scorchesOf y1 I) + 1)), (.int 999), (.int 3), (.int y1), (.ref 18)])) (h' := (107, I, J, mm_rf rv sp rr w nw)) 2 rfl ?_
    refine mm_T.call (t := 348) (as := [(.int 999), (.int ((fX7_scorchesOf y1 I) + 1))]) (f' := (180, [some (.ref 18), some (.int y1), none, none, none, some (.int y5), none, none, some (.int y8), some (.int y9)], [(.int 3), (.int y1), (.ref 18)])) rfl (tJ9_min (d + 3) 999 ((fX7_scorchesOf y1 I) + 1) I J rv sp rr w nw _ rfl) (fun v h hq => ?_)
    obtain ⟨rfl, rfl⟩ := hq
    refine mm_T.call (t := 104) (as := [(.ref 18), (.int y1), (.int 3), (.int (fJ9_min 999 ((fX7_scorchesOf y1 I) + 1)))]) (f' := (183, [some (.ref 18), some (.int y1), none, none, none, some (.int y5), none, none, some (.int y8), some (.int y9)], [])) rfl (tX7_set (d + 2) y1 3 (fJ9_min 999 ((fX7_scorchesOf y1 I) + 1)) I J rv sp rr w nw _ rfl) (fun v h hq => ?_)
    obtain ⟨rfl, rfl⟩ := hq
    refine mm_T.mask [true, true, false, false, false, true, false, false, true, true] ?_
    exact tbX7_makeStroke_J183 d y1 y5 y8 y9 (fX7_set y1 3 (fJ9_min 999 ((fX7_scorchesOf y1 I) + 1)) I) J rv sp rr w nw out e
set_option maxRecDepth 100000 in
set_option maxHeartbeats 4000000 in
theorem tbX7_makeStroke_J136 (d : Nat) (y1 : Int32) (y5 : Int32) (y6 : Int32) (y7 : Int32) (y8 : Int32) (u0 : Int32) (I : Nat → Nat → Int32) (J : Nat → Nat → Int64) (rv sp rr w nw : Nat) (out : Int32 × (Nat → Nat → Int32)) (e : fX7_makeStroke_J136 y1 y5 y6 y7 y8 u0 I = some out) : mm_T none (d + 4) 124 (136, [some (.ref 18), some (.int y1), none, none, none, some (.int y5), some (.int y6), some (.int y7), some (.int y8), none], [(.int u0)]) (107, I, J, mm_rf rv sp rr w nw) (fun v h => v = some (.int out.1) ∧ h = (107, out.2, J, mm_rf rv sp rr w nw)) := by
  unfold fX7_makeStroke_J136 at e
  refine mm_T.seg (f' := (140, [some (.ref 18), some (.int y1), none, none, none, some (.int y5), some (.int y6), some (.int y7), some (.int y8), some (.int u0)], [(.int y8)])) (h' := (107, I, J, mm_rf rv sp rr w nw)) 2 rfl ?_
  refine mm_T.br (c := y8 = 0) (a := ((143, [some (.ref 18), some (.int y1), none, none, none, some (.int y5), some (.int y6), some (.int y7), some (.int y8), some (.int u0)], []), (107, I, J, mm_rf rv sp rr w nw))) (b := ((159, [some (.ref 18), some (.int y1), none, none, none, some (.int y5), some (.int y6), some (.int y7), some (.int y8), some (.int u0)], []), (107, I, J, mm_rf rv sp rr w nw))) rfl (fun h2053 => ?_) (fun h2053 => ?_)
  · rw [if_pos h2053] at e
    refine mm_T.seg (f' := (148, [some (.ref 18), some (.int y1), none, none, none, some (.int y5), some (.int y6), some (.int y7), some (.int y8), some (.int u0)], [(.int y6), (.int 0), (.int y1), (.ref 18)])) (h' := (107, I, J, mm_rf rv sp rr w nw)) 4 rfl ?_
    refine mm_T.call (t := 104) (as := [(.ref 18), (.int y1), (.int 0), (.int y6)]) (f' := (151, [some (.ref 18), some (.int y1), none, none, none, some (.int y5), some (.int y6), some (.int y7), some (.int y8), some (.int u0)], [])) rfl (tX7_set (d + 2) y1 0 y6 I J rv sp rr w nw _ rfl) (fun v h hq => ?_)
    obtain ⟨rfl, rfl⟩ := hq
    refine mm_T.seg (f' := (156, [some (.ref 18), some (.int y1), none, none, none, some (.int y5), some (.int y6), some (.int y7), some (.int y8), some (.int u0)], [(.int y7), (.int 1), (.int y1), (.ref 18)])) (h' := (107, (fX7_set y1 0 y6 I), J, mm_rf rv sp rr w nw)) 4 rfl ?_
    refine mm_T.call (t := 104) (as := [(.ref 18), (.int y1), (.int 1), (.int y7)]) (f' := (159, [some (.ref 18), some (.int y1), none, none, none, some (.int y5), some (.int y6), some (.int y7), some (.int y8), some (.int u0)], [])) rfl (tX7_set (d + 2) y1 1 y7 (fX7_set y1 0 y6 I) J rv sp rr w nw _ rfl) (fun v h hq => ?_)
    obtain ⟨rfl, rfl⟩ := hq
    refine mm_T.mask [true, true, false, false, false, true, false, false, true, true] ?_
    exact tbX7_makeStroke_J159 d y1 y5 y8 u0 (fX7_set y1 1 y7 (fX7_set y1 0 y6 I)) J rv sp rr w nw out e
  · rw [if_neg h2053] at e
    refine mm_T.mask [true, true, false, false, false, true, false, false, true, true] ?_
    exact tbX7_makeStroke_J159 d y1 y5 y8 u0 I J rv sp rr w nw out e
set_option maxRecDepth 100000 in
set_option maxHeartbeats 4000000 in
theorem tbX7_makeStroke_J102 (d : Nat) (y1 : Int32) (y5 : Int32) (y6 : Int32) (u0 : Int32) (u1 : Int32) (I : Nat → Nat → Int32) (J : Nat → Nat → Int64) (rv sp rr w nw : Nat) (hrv : rv = 3 ∨ rv = 19) (out : Int32 × (Nat → Nat → Int32)) (e : fX7_makeStroke_J102 y1 y5 y6 u0 u1 I rv = some out) : mm_T none (d + 4) 124 (102, [some (.ref 18), some (.int y1), none, none, none, some (.int y5), some (.int y6), none, none, none], [(.int u0), (.int u1)]) (107, I, J, mm_rf rv sp rr w nw) (fun v h => v = some (.int out.1) ∧ h = (107, out.2, J, mm_rf rv sp rr w nw)) := by
  rcases hrv with rfl | rfl
  · unfold fX7_makeStroke_J102 at e
    refine mm_T.seg (f' := (113, [some (.ref 18), some (.int y1), none, none, none, some (.int y5), some (.int y6), some (.int (u1 + u0)), none, none], [(.int (u1 + u0)), (.int y6), (.ref 3)])) (h' := (107, I, J, mm_rf 3 sp rr w nw)) 6 rfl ?_
    refine mm_T.call (t := 69) (as := [(.ref 3), (.int y6), (.int (u1 + u0))]) (f' := (116, [some (.ref 18), some (.int y1), none, none, none, some (.int y5), some (.int y6), some (.int (u1 + u0)), none, none], [])) rfl (tX5_ironAt (d + 2) y6 (u1 + u0) 3 I J 3 sp rr w nw (Or.inl rfl) _ rfl) (fun v h hq => ?_)
    obtain ⟨rfl, rfl⟩ := hq
    refine mm_T.seg (f' := (125, [some (.ref 18), some (.int y1), none, none, none, some (.int y5), some (.int y6), some (.int (u1 + u0)), some (.int (fX5_ironAt y6 (u1 + u0) 3 I)), none], [(.int y1), (.ref 3), (.int y5)])) (h' := (107, I, J, mm_rf 3 sp rr w nw)) 5 rfl ?_
    refine mm_T.call (t := 79) (as := [(.ref 3), (.int y1)]) (f' := (128, [some (.ref 18), some (.int y1), none, none, none, some (.int y5), some (.int y6), some (.int (u1 + u0)), some (.int (fX5_ironAt y6 (u1 + u0) 3 I)), none], [(.int y5)])) rfl (tX5_bearsOf (d + 2) y1 3 I J 3 sp rr w nw (Or.inl rfl) _ rfl) (fun v h hq => ?_)
    obtain ⟨rfl, rfl⟩ := hq
    refine mm_T.br (c := (fX5_bearsOf y1 3 I) < y5) (a := ((131, [some (.ref 18), some (.int y1), none, none, none, some (.int y5), some (.int y6), some (.int (u1 + u0)), some (.int (fX5_ironAt y6 (u1 + u0) 3 I)), none], []), (107, I, J, mm_rf 3 sp rr w nw))) (b := ((135, [some (.ref 18), some (.int y1), none, none, none, some (.int y5), some (.int y6), some (.int (u1 + u0)), some (.int (fX5_ironAt y6 (u1 + u0) 3 I)), none], []), (107, I, J, mm_rf 3 sp rr w nw))) rfl (fun h2052 => ?_) (fun h2052 => ?_)
    · rw [if_pos h2052] at e
      refine mm_T.seg (f' := (136, [some (.ref 18), some (.int y1), none, none, none, some (.int y5), some (.int y6), some (.int (u1 + u0)), some (.int (fX5_ironAt y6 (u1 + u0) 3 I)), none], [(.int 1)])) (h' := (107, I, J, mm_rf 3 sp rr w nw)) 2 rfl ?_
      refine mm_T.mask [true, true, false, false, false, true, true, true, true, false] ?_
      exact tbX7_makeStroke_J136 d y1 y5 y6 (u1 + u0) (fX5_ironAt y6 (u1 + u0) 3 I) 1 I J 3 sp rr w nw out e
    · rw [if_neg h2052] at e
      refine mm_T.seg (f' := (136, [some (.ref 18), some (.int y1), none, none, none, some (.int y5), some (.int y6), some (.int (u1 + u0)), some (.int (fX5_ironAt y6 (u1 + u0) 3 I)), none], [(.int 0)])) (h' := (107, I, J, mm_rf 3 sp rr w nw)) 1 rfl ?_
      refine mm_T.mask [true, true, false, false, false, true, true, true, true, false] ?_
      exact tbX7_makeStroke_J136 d y1 y5 y6 (u1 + u0) (fX5_ironAt y6 (u1 + u0) 3 I) 0 I J 3 sp rr w nw out e
  · unfold fX7_makeStroke_J102 at e
    refine mm_T.seg (f' := (113, [some (.ref 18), some (.int y1), none, none, none, some (.int y5), some (.int y6), some (.int (u1 + u0)), none, none], [(.int (u1 + u0)), (.int y6), (.ref 19)])) (h' := (107, I, J, mm_rf 19 sp rr w nw)) 6 rfl ?_
    refine mm_T.call (t := 69) (as := [(.ref 19), (.int y6), (.int (u1 + u0))]) (f' := (116, [some (.ref 18), some (.int y1), none, none, none, some (.int y5), some (.int y6), some (.int (u1 + u0)), none, none], [])) rfl (tX5_ironAt (d + 2) y6 (u1 + u0) 19 I J 19 sp rr w nw (Or.inr rfl) _ rfl) (fun v h hq => ?_)
    obtain ⟨rfl, rfl⟩ := hq
    refine mm_T.seg (f' := (125, [some (.ref 18), some (.int y1), none, none, none, some (.int y5), some (.int y6), some (.int (u1 + u0)), some (.int (fX5_ironAt y6 (u1 + u0) 19 I)), none], [(.int y1), (.ref 19), (.int y5)])) (h' := (107, I, J, mm_rf 19 sp rr w nw)) 5 rfl ?_
    refine mm_T.call (t := 79) (as := [(.ref 19), (.int y1)]) (f' := (128, [some (.ref 18), some (.int y1), none, none, none, some (.int y5), some (.int y6), some (.int (u1 + u0)), some (.int (fX5_ironAt y6 (u1 + u0) 19 I)), none], [(.int y5)])) rfl (tX5_bearsOf (d + 2) y1 19 I J 19 sp rr w nw (Or.inr rfl) _ rfl) (fun v h hq => ?_)
    obtain ⟨rfl, rfl⟩ := hq
    refine mm_T.br (c := (fX5_bearsOf y1 19 I) < y5) (a := ((131, [some (.ref 18), some (.int y1), none, none, none, some (.int y5), some (.int y6), some (.int (u1 + u0)), some (.int (fX5_ironAt y6 (u1 + u0) 19 I)), none], []), (107, I, J, mm_rf 19 sp rr w nw))) (b := ((135, [some (.ref 18), some (.int y1), none, none, none, some (.int y5), some (.int y6), some (.int (u1 + u0)), some (.int (fX5_ironAt y6 (u1 + u0) 19 I)), none], []), (107, I, J, mm_rf 19 sp rr w nw))) rfl (fun h2052 => ?_) (fun h2052 => ?_)
    · rw [if_pos h2052] at e
      refine mm_T.seg (f' := (136, [some (.ref 18), some (.int y1), none, none, none, some (.int y5), some (.int y6), some (.int (u1 + u0)), some (.int (fX5_ironAt y6 (u1 + u0) 19 I)), none], [(.int 1)])) (h' := (107, I, J, mm_rf 19 sp rr w nw)) 2 rfl ?_
      refine mm_T.mask [true, true, false, false, false, true, true, true, true, false] ?_
      exact tbX7_makeStroke_J136 d y1 y5 y6 (u1 + u0) (fX5_ironAt y6 (u1 + u0) 19 I) 1 I J 19 sp rr w nw out e
    · rw [if_neg h2052] at e
      refine mm_T.seg (f' := (136, [some (.ref 18), some (.int y1), none, none, none, some (.int y5), some (.int y6), some (.int (u1 + u0)), some (.int (fX5_ironAt y6 (u1 + u0) 19 I)), none], [(.int 0)])) (h' := (107, I, J, mm_rf 19 sp rr w nw)) 1 rfl ?_
      refine mm_T.mask [true, true, false, false, false, true, true, true, true, false] ?_
      exact tbX7_makeStroke_J136 d y1 y5 y6 (u1 + u0) (fX5_ironAt y6 (u1 + u0) 19 I) 0 I J 19 sp rr w nw out e
set_option maxRecDepth 100000 in
set_option maxHeartbeats 4000000 in
theorem tbX7_makeStroke_J46 (d n : Nat) (y1 : Int32) (y2 : Int32) (y3 : Int32) (u0 : Int32) (I : Nat → Nat → Int32) (J : Nat → Nat → Int64) (rv sp rr w nw : Nat) (hrv : rv = 3 ∨ rv = 19) (out : Int32 × (Nat → Nat → Int32)) (e : fX7_makeStroke_J46 n y1 y2 y3 u0 I rv = some out) : mm_T none (d + 4) 124 (46, [some (.ref 18), some (.int y1), some (.int y2), some (.int y3), none, none, none, none, none, none], [(.int u0)]) (107, I, J, mm_rf rv sp rr w nw) (fun v h => v = some (.int out.1) ∧ h = (107, out.2, J, mm_rf rv sp rr w nw)) := by
  rcases hrv with rfl | rfl
  · unfold fX7_makeStroke_J46 at e
    refine mm_T.seg (f' := (52, [some (.ref 18), some (.int y1), some (.int y2), some (.int y3), some (.int u0), none, none, none, none, none], [(.int y1), (.ref 18), (.int 99)])) (h' := (107, I, J, mm_rf 3 sp rr w nw)) 4 rfl ?_
    refine mm_T.call (t := 107) (as := [(.ref 18), (.int y1)]) (f' := (55, [some (.ref 18), some (.int y1), some (.int y2), some (.int y3), some (.int u0), none, none, none, none, none], [(.int 99)])) rfl (tX7_heatOf (d + 1) y1 I J 3 sp rr w nw _ rfl) (fun v h hq => ?_)
    obtain ⟨rfl, rfl⟩ := hq
    refine mm_T.seg (f' := (57, [some (.ref 18), some (.int y1), some (.int y2), some (.int y3), some (.int u0), none, none, none, none, none], [(.int y1), (.ref 18), (.int (fX7_heatOf y1 I)), (.int 99)])) (h' := (107, I, J, mm_rf 3 sp rr w nw)) 2 rfl ?_
    obtain ⟨o2050, eo2050, e⟩ := mm_bind e
    refine mm_T.call (t := 123) (as := [(.ref 18), (.int y1)]) (f' := (60, [some (.ref 18), some (.int y1), some (.int y2), some (.int y3), some (.int u0), none, none, none, none, none], [(.int (fX7_heatOf y1 I)), (.int 99)])) rfl (tX7_nextWarmth (d + 0) n y1 I J 3 sp rr w nw (Or.inl rfl) o2050 eo2050) (fun v h hq => ?_)
    obtain ⟨rfl, rfl⟩ := hq
    refine mm_T.seg (f' := (61, [some (.ref 18), some (.int y1), some (.int y2), some (.int y3), some (.int u0), none, none, none, none, none], [(.int ((fX7_heatOf y1 I) + o2050.1)), (.int 99)])) (h' := (107, o2050.2, J, mm_rf 3 sp rr w nw)) 1 rfl ?_
    refine mm_T.call (t := 348) (as := [(.int 99), (.int ((fX7_heatOf y1 I) + o2050.1))]) (f' := (64, [some (.ref 18), some (.int y1), some (.int y2), some (.int y3), some (.int u0), none, none, none, none, none], [])) rfl (tJ9_min (d + 3) 99 ((fX7_heatOf y1 I) + o2050.1) o2050.2 J 3 sp rr w nw _ rfl) (fun v h hq => ?_)
    obtain ⟨rfl, rfl⟩ := hq
    refine mm_T.seg (f' := (72, [some (.ref 18), some (.int y1), some (.int y2), some (.int y3), some (.int u0), some (.int (fJ9_min 99 ((fX7_heatOf y1 I) + o2050.1))), none, none, none, none], [(.int y1), (.ref 18), (.ref 3)])) (h' := (107, o2050.2, J, mm_rf 3 sp rr w nw)) 5 rfl ?_
    refine mm_T.call (t := 105) (as := [(.ref 18), (.int y1)]) (f' := (75, [some (.ref 18), some (.int y1), some (.int y2), some (.int y3), some (.int u0), some (.int (fJ9_min 99 ((fX7_heatOf y1 I) + o2050.1))), none, none, none, none], [(.ref 3)])) rfl (tX7_columnOf (d + 1) y1 o2050.2 J 3 sp rr w nw _ rfl) (fun v h hq => ?_)
    obtain ⟨rfl, rfl⟩ := hq
    refine mm_T.seg (f' := (77, [some (.ref 18), some (.int y1), some (.int y2), some (.int y3), some (.int u0), some (.int (fJ9_min 99 ((fX7_heatOf y1 I) + o2050.1))), none, none, none, none], [(.int y1), (.ref 18), (.int (fX7_columnOf y1 o2050.2)), (.ref 3)])) (h' := (107, o2050.2, J, mm_rf 3 sp rr w nw)) 2 rfl ?_
    refine mm_T.call (t := 106) (as := [(.ref 18), (.int y1)]) (f' := (80, [some (.ref 18), some (.int y1), some (.int y2), some (.int y3), some (.int u0), some (.int (fJ9_min 99 ((fX7_heatOf y1 I) + o2050.1))), none, none, none, none], [(.int (fX7_columnOf y1 o2050.2)), (.ref 3)])) rfl (tX7_rowOf (d + 1) y1 o2050.2 J 3 sp rr w nw _ rfl) (fun v h hq => ?_)
    obtain ⟨rfl, rfl⟩ := hq
    refine mm_T.seg (f' := (83, [some (.ref 18), some (.int y1), some (.int y2), some (.int y3), some (.int u0), some (.int (fJ9_min 99 ((fX7_heatOf y1 I) + o2050.1))), none, none, none, none], [(.int u0), (.int y2), (.int (fX7_rowOf y1 o2050.2)), (.int (fX7_columnOf y1 o2050.2)), (.ref 3)])) (h' := (107, o2050.2, J, mm_rf 3 sp rr w nw)) 2 rfl ?_
    refine mm_T.call (t := 81) (as := [(.ref 3), (.int (fX7_columnOf y1 o2050.2)), (.int (fX7_rowOf y1 o2050.2)), (.int y2), (.int u0)]) (f' := (86, [some (.ref 18), some (.int y1), some (.int y2), some (.int y3), some (.int u0), some (.int (fJ9_min 99 ((fX7_heatOf y1 I) + o2050.1))), none, none, none, none], [])) rfl (tX5_leadsTo (d + 2) (fX7_columnOf y1 o2050.2) (fX7_rowOf y1 o2050.2) y2 u0 3 o2050.2 J 3 sp rr w nw (Or.inl rfl) _ rfl) (fun v h hq => ?_)
    obtain ⟨rfl, rfl⟩ := hq
    refine mm_T.seg (f' := (90, [some (.ref 18), some (.int y1), some (.int y2), some (.int y3), some (.int u0), some (.int (fJ9_min 99 ((fX7_heatOf y1 I) + o2050.1))), some (.int (fX5_leadsTo (fX7_columnOf y1 o2050.2) (fX7_rowOf y1 o2050.2) y2 u0 3 o2050.2)), none, none, none], [(.int y1), (.ref 18)])) (h' := (107, o2050.2, J, mm_rf 3 sp rr w nw)) 3 rfl ?_
    refine mm_T.call (t := 106) (as := [(.ref 18), (.int y1)]) (f' := (93, [some (.ref 18), some (.int y1), some (.int y2), some (.int y3), some (.int u0), some (.int (fJ9_min 99 ((fX7_heatOf y1 I) + o2050.1))), some (.int (fX5_leadsTo (fX7_columnOf y1 o2050.2) (fX7_rowOf y1 o2050.2) y2 u0 3 o2050.2)), none, none, none], [])) rfl (tX7_rowOf (d + 1) y1 o2050.2 J 3 sp rr w nw _ rfl) (fun v h hq => ?_)
    obtain ⟨rfl, rfl⟩ := hq
    refine mm_T.seg (f' := (94, [some (.ref 18), some (.int y1), some (.int y2), some (.int y3), some (.int u0), some (.int (fJ9_min 99 ((fX7_heatOf y1 I) + o2050.1))), some (.int (fX5_leadsTo (fX7_columnOf y1 o2050.2) (fX7_rowOf y1 o2050.2) y2 u0 3 o2050.2)), none, none, none], [(.int y3), (.int (fX7_rowOf y1 o2050.2))])) (h' := (107, o2050.2, J, mm_rf 3 sp rr w nw)) 1 rfl ?_
    refine mm_T.br (c := y3 = 0) (a := ((101, [some (.ref 18), some (.int y1), some (.int y2), some (.int y3), some (.int u0), some (.int (fJ9_min 99 ((fX7_heatOf y1 I) + o2050.1))), some (.int (fX5_leadsTo (fX7_columnOf y1 o2050.2) (fX7_rowOf y1 o2050.2) y2 u0 3 o2050.2)), none, none, none], [(.int (fX7_rowOf y1 o2050.2))]), (107, o2050.2, J, mm_rf 3 sp rr w nw))) (b := ((97, [some (.ref 18), some (.int y1), some (.int y2), some (.int y3), some (.int u0), some (.int (fJ9_min 99 ((fX7_heatOf y1 I) + o2050.1))), some (.int (fX5_leadsTo (fX7_columnOf y1 o2050.2) (fX7_rowOf y1 o2050.2) y2 u0 3 o2050.2)), none, none, none], [(.int (fX7_rowOf y1 o2050.2))]), (107, o2050.2, J, mm_rf 3 sp rr w nw))) rfl (fun h2051 => ?_) (fun h2051 => ?_)
    · rw [if_pos h2051] at e
      refine mm_T.seg (f' := (102, [some (.ref 18), some (.int y1), some (.int y2), some (.int y3), some (.int u0), some (.int (fJ9_min 99 ((fX7_heatOf y1 I) + o2050.1))), some (.int (fX5_leadsTo (fX7_columnOf y1 o2050.2) (fX7_rowOf y1 o2050.2) y2 u0 3 o2050.2)), none, none, none], [(.int (-1)), (.int (fX7_rowOf y1 o2050.2))])) (h' := (107, o2050.2, J, mm_rf 3 sp rr w nw)) 1 rfl ?_
      refine mm_T.mask [true, true, false, false, false, true, true, false, false, false] ?_
      exact tbX7_makeStroke_J102 d y1 (fJ9_min 99 ((fX7_heatOf y1 I) + o2050.1)) (fX5_leadsTo (fX7_columnOf y1 o2050.2) (fX7_rowOf y1 o2050.2) y2 u0 3 o2050.2) (-1) (fX7_rowOf y1 o2050.2) o2050.2 J 3 sp rr w nw (Or.inl rfl) out e
    · rw [if_neg h2051] at e
      refine mm_T.seg (f' := (102, [some (.ref 18), some (.int y1), some (.int y2), some (.int y3), some (.int u0), some (.int (fJ9_min 99 ((fX7_heatOf y1 I) + o2050.1))), some (.int (fX5_leadsTo (fX7_columnOf y1 o2050.2) (fX7_rowOf y1 o2050.2) y2 u0 3 o2050.2)), none, none, none], [(.int 1), (.int (fX7_rowOf y1 o2050.2))])) (h' := (107, o2050.2, J, mm_rf 3 sp rr w nw)) 2 rfl ?_
      refine mm_T.mask [true, true, false, false, false, true, true, false, false, false] ?_
      exact tbX7_makeStroke_J102 d y1 (fJ9_min 99 ((fX7_heatOf y1 I) + o2050.1)) (fX5_leadsTo (fX7_columnOf y1 o2050.2) (fX7_rowOf y1 o2050.2) y2 u0 3 o2050.2) 1 (fX7_rowOf y1 o2050.2) o2050.2 J 3 sp rr w nw (Or.inl rfl) out e
  · unfold fX7_makeStroke_J46 at e
    refine mm_T.seg (f' := (52, [some (.ref 18), some (.int y1), some (.int y2), some (.int y3), some (.int u0), none, none, none, none, none], [(.int y1), (.ref 18), (.int 99)])) (h' := (107, I, J, mm_rf 19 sp rr w nw)) 4 rfl ?_
    refine mm_T.call (t := 107) (as := [(.ref 18), (.int y1)]) (f' := (55, [some (.ref 18), some (.int y1), some (.int y2), some (.int y3), some (.int u0), none, none, none, none, none], [(.int 99)])) rfl (tX7_heatOf (d + 1) y1 I J 19 sp rr w nw _ rfl) (fun v h hq => ?_)
    obtain ⟨rfl, rfl⟩ := hq
    refine mm_T.seg (f' := (57, [some (.ref 18), some (.int y1), some (.int y2), some (.int y3), some (.int u0), none, none, none, none, none], [(.int y1), (.ref 18), (.int (fX7_heatOf y1 I)), (.int 99)])) (h' := (107, I, J, mm_rf 19 sp rr w nw)) 2 rfl ?_
    obtain ⟨o2050, eo2050, e⟩ := mm_bind e
    refine mm_T.call (t := 123) (as := [(.ref 18), (.int y1)]) (f' := (60, [some (.ref 18), some (.int y1), some (.int y2), some (.int y3), some (.int u0), none, none, none, none, none], [(.int (fX7_heatOf y1 I)), (.int 99)])) rfl (tX7_nextWarmth (d + 0) n y1 I J 19 sp rr w nw (Or.inr rfl) o2050 eo2050) (fun v h hq => ?_)
    obtain ⟨rfl, rfl⟩ := hq
    refine mm_T.seg (f' := (61, [some (.ref 18), some (.int y1), some (.int y2), some (.int y3), some (.int u0), none, none, none, none, none], [(.int ((fX7_heatOf y1 I) + o2050.1)), (.int 99)])) (h' := (107, o2050.2, J, mm_rf 19 sp rr w nw)) 1 rfl ?_
    refine mm_T.call (t := 348) (as := [(.int 99), (.int ((fX7_heatOf y1 I) + o2050.1))]) (f' := (64, [some (.ref 18), some (.int y1), some (.int y2), some (.int y3), some (.int u0), none, none, none, none, none], [])) rfl (tJ9_min (d + 3) 99 ((fX7_heatOf y1 I) + o2050.1) o2050.2 J 19 sp rr w nw _ rfl) (fun v h hq => ?_)
    obtain ⟨rfl, rfl⟩ := hq
    refine mm_T.seg (f' := (72, [some (.ref 18), some (.int y1), some (.int y2), some (.int y3), some (.int u0), some (.int (fJ9_min 99 ((fX7_heatOf y1 I) + o2050.1))), none, none, none, none], [(.int y1), (.ref 18), (.ref 19)])) (h' := (107, o2050.2, J, mm_rf 19 sp rr w nw)) 5 rfl ?_
    refine mm_T.call (t := 105) (as := [(.ref 18), (.int y1)]) (f' := (75, [some (.ref 18), some (.int y1), some (.int y2), some (.int y3), some (.int u0), some (.int (fJ9_min 99 ((fX7_heatOf y1 I) + o2050.1))), none, none, none, none], [(.ref 19)])) rfl (tX7_columnOf (d + 1) y1 o2050.2 J 19 sp rr w nw _ rfl) (fun v h hq => ?_)
    obtain ⟨rfl, rfl⟩ := hq
    refine mm_T.seg (f' := (77, [some (.ref 18), some (.int y1), some (.int y2), some (.int y3), some (.int u0), some (.int (fJ9_min 99 ((fX7_heatOf y1 I) + o2050.1))), none, none, none, none], [(.int y1), (.ref 18), (.int (fX7_columnOf y1 o2050.2)), (.ref 19)])) (h' := (107, o2050.2, J, mm_rf 19 sp rr w nw)) 2 rfl ?_
    refine mm_T.call (t := 106) (as := [(.ref 18), (.int y1)]) (f' := (80, [some (.ref 18), some (.int y1), some (.int y2), some (.int y3), some (.int u0), some (.int (fJ9_min 99 ((fX7_heatOf y1 I) + o2050.1))), none, none, none, none], [(.int (fX7_columnOf y1 o2050.2)), (.ref 19)])) rfl (tX7_rowOf (d + 1) y1 o2050.2 J 19 sp rr w nw _ rfl) (fun v h hq => ?_)
    obtain ⟨rfl, rfl⟩ := hq
    refine mm_T.seg (f' := (83, [some (.ref 18), some (.int y1), some (.int y2), some (.int y3), some (.int u0), some (.int (fJ9_min 99 ((fX7_heatOf y1 I) + o2050.1))), none, none, none, none], [(.int u0), (.int y2), (.int (fX7_rowOf y1 o2050.2)), (.int (fX7_columnOf y1 o2050.2)), (.ref 19)])) (h' := (107, o2050.2, J, mm_rf 19 sp rr w nw)) 2 rfl ?_
    refine mm_T.call (t := 81) (as := [(.ref 19), (.int (fX7_columnOf y1 o2050.2)), (.int (fX7_rowOf y1 o2050.2)), (.int y2), (.int u0)]) (f' := (86, [some (.ref 18), some (.int y1), some (.int y2), some (.int y3), some (.int u0), some (.int (fJ9_min 99 ((fX7_heatOf y1 I) + o2050.1))), none, none, none, none], [])) rfl (tX5_leadsTo (d + 2) (fX7_columnOf y1 o2050.2) (fX7_rowOf y1 o2050.2) y2 u0 19 o2050.2 J 19 sp rr w nw (Or.inr rfl) _ rfl) (fun v h hq => ?_)
    obtain ⟨rfl, rfl⟩ := hq
    refine mm_T.seg (f' := (90, [some (.ref 18), some (.int y1), some (.int y2), some (.int y3), some (.int u0), some (.int (fJ9_min 99 ((fX7_heatOf y1 I) + o2050.1))), some (.int (fX5_leadsTo (fX7_columnOf y1 o2050.2) (fX7_rowOf y1 o2050.2) y2 u0 19 o2050.2)), none, none, none], [(.int y1), (.ref 18)])) (h' := (107, o2050.2, J, mm_rf 19 sp rr w nw)) 3 rfl ?_
    refine mm_T.call (t := 106) (as := [(.ref 18), (.int y1)]) (f' := (93, [some (.ref 18), some (.int y1), some (.int y2), some (.int y3), some (.int u0), some (.int (fJ9_min 99 ((fX7_heatOf y1 I) + o2050.1))), some (.int (fX5_leadsTo (fX7_columnOf y1 o2050.2) (fX7_rowOf y1 o2050.2) y2 u0 19 o2050.2)), none, none, none], [])) rfl (tX7_rowOf (d + 1) y1 o2050.2 J 19 sp rr w nw _ rfl) (fun v h hq => ?_)
    obtain ⟨rfl, rfl⟩ := hq
    refine mm_T.seg (f' := (94, [some (.ref 18), some (.int y1), some (.int y2), some (.int y3), some (.int u0), some (.int (fJ9_min 99 ((fX7_heatOf y1 I) + o2050.1))), some (.int (fX5_leadsTo (fX7_columnOf y1 o2050.2) (fX7_rowOf y1 o2050.2) y2 u0 19 o2050.2)), none, none, none], [(.int y3), (.int (fX7_rowOf y1 o2050.2))])) (h' := (107, o2050.2, J, mm_rf 19 sp rr w nw)) 1 rfl ?_
    refine mm_T.br (c := y3 = 0) (a := ((101, [some (.ref 18), some (.int y1), some (.int y2), some (.int y3), some (.int u0), some (.int (fJ9_min 99 ((fX7_heatOf y1 I) + o2050.1))), some (.int (fX5_leadsTo (fX7_columnOf y1 o2050.2) (fX7_rowOf y1 o2050.2) y2 u0 19 o2050.2)), none, none, none], [(.int (fX7_rowOf y1 o2050.2))]), (107, o2050.2, J, mm_rf 19 sp rr w nw))) (b := ((97, [some (.ref 18), some (.int y1), some (.int y2), some (.int y3), some (.int u0), some (.int (fJ9_min 99 ((fX7_heatOf y1 I) + o2050.1))), some (.int (fX5_leadsTo (fX7_columnOf y1 o2050.2) (fX7_rowOf y1 o2050.2) y2 u0 19 o2050.2)), none, none, none], [(.int (fX7_rowOf y1 o2050.2))]), (107, o2050.2, J, mm_rf 19 sp rr w nw))) rfl (fun h2051 => ?_) (fun h2051 => ?_)
    · rw [if_pos h2051] at e
      refine mm_T.seg (f' := (102, [some (.ref 18), some (.int y1), some (.int y2), some (.int y3), some (.int u0), some (.int (fJ9_min 99 ((fX7_heatOf y1 I) + o2050.1))), some (.int (fX5_leadsTo (fX7_columnOf y1 o2050.2) (fX7_rowOf y1 o2050.2) y2 u0 19 o2050.2)), none, none, none], [(.int (-1)), (.int (fX7_rowOf y1 o2050.2))])) (h' := (107, o2050.2, J, mm_rf 19 sp rr w nw)) 1 rfl ?_
      refine mm_T.mask [true, true, false, false, false, true, true, false, false, false] ?_
      exact tbX7_makeStroke_J102 d y1 (fJ9_min 99 ((fX7_heatOf y1 I) + o2050.1)) (fX5_leadsTo (fX7_columnOf y1 o2050.2) (fX7_rowOf y1 o2050.2) y2 u0 19 o2050.2) (-1) (fX7_rowOf y1 o2050.2) o2050.2 J 19 sp rr w nw (Or.inr rfl) out e
    · rw [if_neg h2051] at e
      refine mm_T.seg (f' := (102, [some (.ref 18), some (.int y1), some (.int y2), some (.int y3), some (.int u0), some (.int (fJ9_min 99 ((fX7_heatOf y1 I) + o2050.1))), some (.int (fX5_leadsTo (fX7_columnOf y1 o2050.2) (fX7_rowOf y1 o2050.2) y2 u0 19 o2050.2)), none, none, none], [(.int 1), (.int (fX7_rowOf y1 o2050.2))])) (h' := (107, o2050.2, J, mm_rf 19 sp rr w nw)) 2 rfl ?_
      refine mm_T.mask [true, true, false, false, false, true, true, false, false, false] ?_
      exact tbX7_makeStroke_J102 d y1 (fJ9_min 99 ((fX7_heatOf y1 I) + o2050.1)) (fX5_leadsTo (fX7_columnOf y1 o2050.2) (fX7_rowOf y1 o2050.2) y2 u0 19 o2050.2) 1 (fX7_rowOf y1 o2050.2) o2050.2 J 19 sp rr w nw (Or.inr rfl) out e
set_option maxRecDepth 100000 in
set_option maxHeartbeats 4000000 in
theorem tX7_makeStroke (d n : Nat) (x1 : Int32) (x2 : Int32) (x3 : Int32) (I : Nat → Nat → Int32) (J : Nat → Nat → Int64) (rv sp rr w nw : Nat) (hrv : rv = 3 ∨ rv = 19) (out : Int32 × (Nat → Nat → Int32)) (e : fX7_makeStroke n x1 x2 x3 I rv = some out) : mm_T none (d + 4) 124 (mm_ent 124 [(.ref 18), (.int x1), (.int x2), (.int x3)]) (107, I, J, mm_rf rv sp rr w nw) (fun v h => v = some (.int out.1) ∧ h = (107, out.2, J, mm_rf rv sp rr w nw)) := by
  rcases hrv with rfl | rfl
  · unfold fX7_makeStroke at e
    refine mm_T.seg (f' := (7, [some (.ref 18), some (.int x1), some (.int x2), some (.int x3), none, none, none, none, none, none], [(.ref 18), (.int 27), (.ref 32)])) (h' := (107, I, J, mm_rf 3 sp rr w nw)) 4 rfl ?_
    refine mm_T.call (t := 114) (as := [(.ref 18)]) (f' := (10, [some (.ref 18), some (.int x1), some (.int x2), some (.int x3), none, none, none, none, none, none], [(.int 27), (.ref 32)])) rfl (tX7_seed (d + 2) I J 3 sp rr w nw _ rfl) (fun v h hq => ?_)
    obtain ⟨rfl, rfl⟩ := hq
    refine mm_T.seg (f' := (21, [some (.ref 18), some (.int x1), some (.int x2), some (.int x3), none, none, none, none, none, none], [(.int ((((fX7_seed I) * 137) + 71) - (((fX7_seed I) * 137) + 71) / 1000 * 1000)), (.int 27), (.ref 32)])) (h' := (107, I, J, mm_rf 3 sp rr w nw)) 6 rfl ?_
    refine mm_T.call (t := 205) (as := [(.ref 32), (.int 27), (.int ((((fX7_seed I) * 137) + 71) - (((fX7_seed I) * 137) + 71) / 1000 * 1000))]) (f' := (24, [some (.ref 18), some (.int x1), some (.int x2), some (.int x3), none, none, none, none, none, none], [])) rfl (t_put _ 32 28 27 ((((fX7_seed I) * 137) + 71) - (((fX7_seed I) * 137) + 71) / 1000 * 1000) I J (mm_rf 3 sp rr w nw) rfl rfl) (fun v h hq => ?_)
    obtain ⟨rfl, rfl⟩ := hq
    refine mm_T.seg (f' := (25, [some (.ref 18), some (.int x1), some (.int x2), some (.int x3), none, none, none, none, none, none], [(.ref 18)])) (h' := (107, (mf_put I 32 28 27 ((((fX7_seed I) * 137) + 71) - (((fX7_seed I) * 137) + 71) / 1000 * 1000)), J, mm_rf 3 sp rr w nw)) 1 rfl ?_
    refine mm_T.call (t := 114) (as := [(.ref 18)]) (f' := (28, [some (.ref 18), some (.int x1), some (.int x2), some (.int x3), none, none, none, none, none, none], [])) rfl (tX7_seed (d + 2) (mf_put I 32 28 27 ((((fX7_seed I) * 137) + 71) - (((fX7_seed I) * 137) + 71) / 1000 * 1000)) J 3 sp rr w nw _ rfl) (fun v h hq => ?_)
    obtain ⟨rfl, rfl⟩ := hq
    refine mm_T.seg (f' := (38, [some (.ref 18), some (.int x1), some (.int x2), some (.int x3), none, none, none, none, none, none], [(.int ((mf_put I 32 28 27 ((((fX7_seed I) * 137) + 71) - (((fX7_seed I) * 137) + 71) / 1000 * 1000)) 3 6)), (.int ((fX7_seed (mf_put I 32 28 27 ((((fX7_seed I) * 137) + 71) - (((fX7_seed I) * 137) + 71) / 1000 * 1000))) - (fX7_seed (mf_put I 32 28 27 ((((fX7_seed I) * 137) + 71) - (((fX7_seed I) * 137) + 71) / 1000 * 1000))) / 100 * 100))])) (h' := (107, (mf_put I 32 28 27 ((((fX7_seed I) * 137) + 71) - (((fX7_seed I) * 137) + 71) / 1000 * 1000)), J, mm_rf 3 sp rr w nw)) 5 rfl ?_
    refine mm_T.br (c := ((fX7_seed (mf_put I 32 28 27 ((((fX7_seed I) * 137) + 71) - (((fX7_seed I) * 137) + 71) / 1000 * 1000))) - (fX7_seed (mf_put I 32 28 27 ((((fX7_seed I) * 137) + 71) - (((fX7_seed I) * 137) + 71) / 1000 * 1000))) / 100 * 100) < ((mf_put I 32 28 27 ((((fX7_seed I) * 137) + 71) - (((fX7_seed I) * 137) + 71) / 1000 * 1000)) 3 6)) (a := ((41, [some (.ref 18), some (.int x1), some (.int x2), some (.int x3), none, none, none, none, none, none], []), (107, (mf_put I 32 28 27 ((((fX7_seed I) * 137) + 71) - (((fX7_seed I) * 137) + 71) / 1000 * 1000)), J, mm_rf 3 sp rr w nw))) (b := ((45, [some (.ref 18), some (.int x1), some (.int x2), some (.int x3), none, none, none, none, none, none], []), (107, (mf_put I 32 28 27 ((((fX7_seed I) * 137) + 71) - (((fX7_seed I) * 137) + 71) / 1000 * 1000)), J, mm_rf 3 sp rr w nw))) rfl (fun h2049 => ?_) (fun h2049 => ?_)
    · rw [if_pos h2049] at e
      refine mm_T.seg (f' := (46, [some (.ref 18), some (.int x1), some (.int x2), some (.int x3), none, none, none, none, none, none], [(.int 2)])) (h' := (107, (mf_put I 32 28 27 ((((fX7_seed I) * 137) + 71) - (((fX7_seed I) * 137) + 71) / 1000 * 1000)), J, mm_rf 3 sp rr w nw)) 2 rfl ?_
      refine mm_T.mask [true, true, true, true, false, false, false, false, false, false] ?_
      exact tbX7_makeStroke_J46 d n x1 x2 x3 2 (mf_put I 32 28 27 ((((fX7_seed I) * 137) + 71) - (((fX7_seed I) * 137) + 71) / 1000 * 1000)) J 3 sp rr w nw (Or.inl rfl) out e
    · rw [if_neg h2049] at e
      refine mm_T.seg (f' := (46, [some (.ref 18), some (.int x1), some (.int x2), some (.int x3), none, none, none, none, none, none], [(.int 1)])) (h' := (107, (mf_put I 32 28 27 ((((fX7_seed I) * 137) + 71) - (((fX7_seed I) * 137) + 71) / 1000 * 1000)), J, mm_rf 3 sp rr w nw)) 1 rfl ?_
      refine mm_T.mask [true, true, true, true, false, false, false, false, false, false] ?_
      exact tbX7_makeStroke_J46 d n x1 x2 x3 1 (mf_put I 32 28 27 ((((fX7_seed I) * 137) + 71) - (((fX7_seed I) * 137) + 71) / 1000 * 1000)) J 3 sp rr w nw (Or.inl rfl) out e
  · unfold fX7_makeStroke at e
    refine mm_T.seg (f' := (7, [some (.ref 18), some (.int x1), some (.int x2), some (.int x3), none, none, none, none, none, none], [(.ref 18), (.int 27), (.ref 32)])) (h' := (107, I, J, mm_rf 19 sp rr w nw)) 4 rfl ?_
    refine mm_T.call (t := 114) (as := [(.ref 18)]) (f' := (10, [some (.ref 18), some (.int x1), some (.int x2), some (.int x3), none, none, none, none, none, none], [(.int 27), (.ref 32)])) rfl (tX7_seed (d + 2) I J 19 sp rr w nw _ rfl) (fun v h hq => ?_)
    obtain ⟨rfl, rfl⟩ := hq
    refine mm_T.seg (f' := (21, [some (.ref 18), some (.int x1), some (.int x2), some (.int x3), none, none, none, none, none, none], [(.int ((((fX7_seed I) * 137) + 71) - (((fX7_seed I) * 137) + 71) / 1000 * 1000)), (.int 27), (.ref 32)])) (h' := (107, I, J, mm_rf 19 sp rr w nw)) 6 rfl ?_
    refine mm_T.call (t := 205) (as := [(.ref 32), (.int 27), (.int ((((fX7_seed I) * 137) + 71) - (((fX7_seed I) * 137) + 71) / 1000 * 1000))]) (f' := (24, [some (.ref 18), some (.int x1), some (.int x2), some (.int x3), none, none, none, none, none, none], [])) rfl (t_put _ 32 28 27 ((((fX7_seed I) * 137) + 71) - (((fX7_seed I) * 137) + 71) / 1000 * 1000) I J (mm_rf 19 sp rr w nw) rfl rfl) (fun v h hq => ?_)
    obtain ⟨rfl, rfl⟩ := hq
    refine mm_T.seg (f' := (25, [some (.ref 18), some (.int x1), some (.int x2), some (.int x3), none, none, none, none, none, none], [(.ref 18)])) (h' := (107, (mf_put I 32 28 27 ((((fX7_seed I) * 137) + 71) - (((fX7_seed I) * 137) + 71) / 1000 * 1000)), J, mm_rf 19 sp rr w nw)) 1 rfl ?_
    refine mm_T.call (t := 114) (as := [(.ref 18)]) (f' := (28, [some (.ref 18), some (.int x1), some (.int x2), some (.int x3), none, none, none, none, none, none], [])) rfl (tX7_seed (d + 2) (mf_put I 32 28 27 ((((fX7_seed I) * 137) + 71) - (((fX7_seed I) * 137) + 71) / 1000 * 1000)) J 19 sp rr w nw _ rfl) (fun v h hq => ?_)
    obtain ⟨rfl, rfl⟩ := hq
    refine mm_T.seg (f' := (38, [some (.ref 18), some (.int x1), some (.int x2), some (.int x3), none, none, none, none, none, none], [(.int ((mf_put I 32 28 27 ((((fX7_seed I) * 137) + 71) - (((fX7_seed I) * 137) + 71) / 1000 * 1000)) 19 6)), (.int ((fX7_seed (mf_put I 32 28 27 ((((fX7_seed I) * 137) + 71) - (((fX7_seed I) * 137) + 71) / 1000 * 1000))) - (fX7_seed (mf_put I 32 28 27 ((((fX7_seed I) * 137) + 71) - (((fX7_seed I) * 137) + 71) / 1000 * 1000))) / 100 * 100))])) (h' := (107, (mf_put I 32 28 27 ((((fX7_seed I) * 137) + 71) - (((fX7_seed I) * 137) + 71) / 1000 * 1000)), J, mm_rf 19 sp rr w nw)) 5 rfl ?_
    refine mm_T.br (c := ((fX7_seed (mf_put I 32 28 27 ((((fX7_seed I) * 137) + 71) - (((fX7_seed I) * 137) + 71) / 1000 * 1000))) - (fX7_seed (mf_put I 32 28 27 ((((fX7_seed I) * 137) + 71) - (((fX7_seed I) * 137) + 71) / 1000 * 1000))) / 100 * 100) < ((mf_put I 32 28 27 ((((fX7_seed I) * 137) + 71) - (((fX7_seed I) * 137) + 71) / 1000 * 1000)) 19 6)) (a := ((41, [some (.ref 18), some (.int x1), some (.int x2), some (.int x3), none, none, none, none, none, none], []), (107, (mf_put I 32 28 27 ((((fX7_seed I) * 137) + 71) - (((fX7_seed I) * 137) + 71) / 1000 * 1000)), J, mm_rf 19 sp rr w nw))) (b := ((45, [some (.ref 18), some (.int x1), some (.int x2), some (.int x3), none, none, none, none, none, none], []), (107, (mf_put I 32 28 27 ((((fX7_seed I) * 137) + 71) - (((fX7_seed I) * 137) + 71) / 1000 * 1000)), J, mm_rf 19 sp rr w nw))) rfl (fun h2049 => ?_) (fun h2049 => ?_)
    · rw [if_pos h2049] at e
      refine mm_T.seg (f' := (46, [some (.ref 18), some (.int x1), some (.int x2), some (.int x3), none, none, none, none, none, none], [(.int 2)])) (h' := (107, (mf_put I 32 28 27 ((((fX7_seed I) * 137) + 71) - (((fX7_seed I) * 137) + 71) / 1000 * 1000)), J, mm_rf 19 sp rr w nw)) 2 rfl ?_
      refine mm_T.mask [true, true, true, true, false, false, false, false, false, false] ?_
      exact tbX7_makeStroke_J46 d n x1 x2 x3 2 (mf_put I 32 28 27 ((((fX7_seed I) * 137) + 71) - (((fX7_seed I) * 137) + 71) / 1000 * 1000)) J 19 sp rr w nw (Or.inr rfl) out e
    · rw [if_neg h2049] at e
      refine mm_T.seg (f' := (46, [some (.ref 18), some (.int x1), some (.int x2), some (.int x3), none, none, none, none, none, none], [(.int 1)])) (h' := (107, (mf_put I 32 28 27 ((((fX7_seed I) * 137) + 71) - (((fX7_seed I) * 137) + 71) / 1000 * 1000)), J, mm_rf 19 sp rr w nw)) 1 rfl ?_
      refine mm_T.mask [true, true, true, true, false, false, false, false, false, false] ?_
      exact tbX7_makeStroke_J46 d n x1 x2 x3 1 (mf_put I 32 28 27 ((((fX7_seed I) * 137) + 71) - (((fX7_seed I) * 137) + 71) / 1000 * 1000)) J 19 sp rr w nw (Or.inr rfl) out e
