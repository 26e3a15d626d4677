set_option maxRecDepth 100000 in
set_option maxHeartbeats 4000000 in
theorem tlX9_findFewest_L2 (d : Nat) (Q : Option Value → mm_H → Prop) : ∀ (n : Nat) (y1 : Int32) (I : Nat → Nat → Int32) (J : Nat → Nat → Int64) (rv sp rr w nw : Nat), (rv = 3 ∨ rv = 19) → ∀ (out : (Int32 ⊕ (Unit))), fX9_findFewest_L2 n y1 I rv = some out → (∀ (r : Int32), out = .inl r → Q (some (.int r)) (107, I, J, mm_rf rv sp rr w nw)) → (∀ (y : Unit), out = .inr y → mm_T none (d + 28) 135 (54, [some (.ref 45), none], []) (107, I, J, mm_rf rv sp rr w nw) Q) → mm_T none (d + 28) 135 (2, [some (.ref 45), some (.int y1)], []) (107, I, J, mm_rf rv sp rr w nw) Q := by
  intro n
  induction n with
  | zero =>
    intro y1 I J rv sp rr w nw hrv out e kr ke
    rw [fX9_findFewest_L2] at e; cases e
  | succ n ih =>
    intro y1 I J rv sp rr w nw hrv out e kr ke
    rcases hrv with rfl | rfl
    · rw [fX9_findFewest_L2] at e
      refine mm_T.seg (f' := (7, [some (.ref 45), some (.int y1)], [(.ref 18), (.int y1)])) (h' := (107, I, J, mm_rf 3 sp rr w nw)) 3 rfl ?_
      refine mm_T.seg (f' := (13, [some (.ref 45), some (.int y1)], [(.int (I 3 5)), (.int y1)])) (h' := (107, I, J, mm_rf 3 sp rr w nw)) 2 rfl ?_
      refine mm_T.br (c := y1 < (I 3 5)) (a := ((16, [some (.ref 45), some (.int y1)], []), (107, I, J, mm_rf 3 sp rr w nw))) (b := ((54, [some (.ref 45), some (.int y1)], []), (107, I, J, mm_rf 3 sp rr w nw))) rfl (fun h2131 => ?_) (fun h2131 => ?_)
      · rw [if_pos h2131] at e
        refine mm_T.seg (f' := (20, [some (.ref 45), some (.int y1)], [(.ref 18)])) (h' := (107, I, J, mm_rf 3 sp rr w nw)) 2 rfl ?_
        refine mm_T.seg (f' := (21, [some (.ref 45), some (.int y1)], [(.int y1), (.ref 18)])) (h' := (107, I, J, mm_rf 3 sp rr w nw)) 1 rfl ?_
        obtain ⟨g358, hg358⟩ : ∃ z, fX7_placeOf y1 I = z := ⟨_, rfl⟩
        try rw [hg358] at e
        refine mm_T.call (t := 112) (as := [(.ref 18), (.int y1)]) (f' := (24, [some (.ref 45), some (.int y1)], [])) rfl (tX7_placeOf (d + 26) y1 I J 3 sp rr w nw g358 hg358) (fun v h hq => ?_)
        obtain ⟨rfl, rfl⟩ := hq
        refine mm_T.seg (f' := (25, [some (.ref 45), some (.int y1)], [(.int (-1)), (.int g358)])) (h' := (107, I, J, mm_rf 3 sp rr w nw)) 1 rfl ?_
        refine mm_T.br (c := g358 = (-1)) (a := ((28, [some (.ref 45), some (.int y1)], []), (107, I, J, mm_rf 3 sp rr w nw))) (b := ((48, [some (.ref 45), some (.int y1)], []), (107, I, J, mm_rf 3 sp rr w nw))) rfl (fun h2132 => ?_) (fun h2132 => ?_)
        · rw [if_pos h2132] at e
          refine mm_T.seg (f' := (33, [some (.ref 45), some (.int y1)], [(.ref 18), (.ref 45)])) (h' := (107, I, J, mm_rf 3 sp rr w nw)) 3 rfl ?_
          refine mm_T.seg (f' := (37, [some (.ref 45), some (.int y1)], [(.int y1), (.ref 3), (.ref 45)])) (h' := (107, I, J, mm_rf 3 sp rr w nw)) 2 rfl ?_
          obtain ⟨g359, hg359⟩ : ∃ z, fX5_loadWide y1 3 I = z := ⟨_, rfl⟩
          try rw [hg359] at e
          refine mm_T.call (t := 80) (as := [(.ref 3), (.int y1)]) (f' := (40, [some (.ref 45), some (.int y1)], [(.ref 45)])) rfl (tX5_loadWide (d + 26) y1 3 I J 3 sp rr w nw (Or.inl rfl) g359 hg359) (fun v h hq => ?_)
          obtain ⟨rfl, rfl⟩ := hq
          obtain ⟨o2133, eo2133, e⟩ := mm_bind e
          refine mm_T.call (t := 136) (as := [(.ref 45), (.int g359)]) (f' := (43, [some (.ref 45), some (.int y1)], [])) rfl (tX9_hasRoomFor (d + 26) n g359 I J 3 sp rr w nw o2133 eo2133) (fun v h hq => ?_)
          obtain ⟨rfl, rfl⟩ := hq
          refine mm_T.br (c := o2133 = 0) (a := ((46, [some (.ref 45), some (.int y1)], []), (107, I, J, mm_rf 3 sp rr w nw))) (b := ((48, [some (.ref 45), some (.int y1)], []), (107, I, J, mm_rf 3 sp rr w nw))) rfl (fun h2134 => ?_) (fun h2134 => ?_)
          · rw [if_pos h2134] at e
            refine mm_T.seg (f' := (47, [some (.ref 45), some (.int y1)], [(.int (-1))])) (h' := (107, I, J, mm_rf 3 sp rr w nw)) 1 rfl ?_
            cases e
            exact mm_T.ret rfl (kr _ rfl)
          · rw [if_neg h2134] at e
            refine mm_T.seg (f' := (2, [some (.ref 45), some (.int (y1 + 1))], [])) (h' := (107, I, J, mm_rf 3 sp rr w nw)) 2 rfl ?_
            refine mm_T.mask [true, true] ?_
            exact ih (y1 + 1) I J 3 sp rr w nw (Or.inl rfl) out e kr ke
        · rw [if_neg h2132] at e
          refine mm_T.seg (f' := (2, [some (.ref 45), some (.int (y1 + 1))], [])) (h' := (107, I, J, mm_rf 3 sp rr w nw)) 2 rfl ?_
          refine mm_T.mask [true, true] ?_
          exact ih (y1 + 1) I J 3 sp rr w nw (Or.inl rfl) out e kr ke
      · rw [if_neg h2131] at e
        cases e
        refine mm_T.mask [true, false] ?_
        exact ke _ rfl
    · rw [fX9_findFewest_L2] at e
      refine mm_T.seg (f' := (7, [some (.ref 45), some (.int y1)], [(.ref 18), (.int y1)])) (h' := (107, I, J, mm_rf 19 sp rr w nw)) 3 rfl ?_
      refine mm_T.seg (f' := (13, [some (.ref 45), some (.int y1)], [(.int (I 19 5)), (.int y1)])) (h' := (107, I, J, mm_rf 19 sp rr w nw)) 2 rfl ?_
      refine mm_T.br (c := y1 < (I 19 5)) (a := ((16, [some (.ref 45), some (.int y1)], []), (107, I, J, mm_rf 19 sp rr w nw))) (b := ((54, [some (.ref 45), some (.int y1)], []), (107, I, J, mm_rf 19 sp rr w nw))) rfl (fun h2131 => ?_) (fun h2131 => ?_)
      · rw [if_pos h2131] at e
        refine mm_T.seg (f' := (20, [some (.ref 45), some (.int y1)], [(.ref 18)])) (h' := (107, I, J, mm_rf 19 sp rr w nw)) 2 rfl ?_
        refine mm_T.seg (f' := (21, [some (.ref 45), some (.int y1)], [(.int y1), (.ref 18)])) (h' := (107, I, J, mm_rf 19 sp rr w nw)) 1 rfl ?_
        obtain ⟨g358, hg358⟩ : ∃ z, fX7_placeOf y1 I = z := ⟨_, rfl⟩
        try rw [hg358] at e
        refine mm_T.call (t := 112) (as := [(.ref 18), (.int y1)]) (f' := (24, [some (.ref 45), some (.int y1)], [])) rfl (tX7_placeOf (d + 26) y1 I J 19 sp rr w nw g358 hg358) (fun v h hq => ?_)
        obtain ⟨rfl, rfl⟩ := hq
        refine mm_T.seg (f' := (25, [some (.ref 45), some (.int y1)], [(.int (-1)), (.int g358)])) (h' := (107, I, J, mm_rf 19 sp rr w nw)) 1 rfl ?_
        refine mm_T.br (c := g358 = (-1)) (a := ((28, [some (.ref 45), some (.int y1)], []), (107, I, J, mm_rf 19 sp rr w nw))) (b := ((48, [some (.ref 45), some (.int y1)], []), (107, I, J, mm_rf 19 sp rr w nw))) rfl (fun h2132 => ?_) (fun h2132 => ?_)
        · rw [if_pos h2132] at e
          refine mm_T.seg (f' := (33, [some (.ref 45), some (.int y1)], [(.ref 18), (.ref 45)])) (h' := (107, I, J, mm_rf 19 sp rr w nw)) 3 rfl ?_
          refine mm_T.seg (f' := (37, [some (.ref 45), some (.int y1)], [(.int y1), (.ref 19), (.ref 45)])) (h' := (107, I, J, mm_rf 19 sp rr w nw)) 2 rfl ?_
          obtain ⟨g359, hg359⟩ : ∃ z, fX5_loadWide y1 19 I = z := ⟨_, rfl⟩
          try rw [hg359] at e
          refine mm_T.call (t := 80) (as := [(.ref 19), (.int y1)]) (f' := (40, [some (.ref 45), some (.int y1)], [(.ref 45)])) rfl (tX5_loadWide (d + 26) y1 19 I J 19 sp rr w nw (Or.inr rfl) g359 hg359) (fun v h hq => ?_)
          obtain ⟨rfl, rfl⟩ := hq
          obtain ⟨o2133, eo2133, e⟩ := mm_bind e
          refine mm_T.call (t := 136) (as := [(.ref 45), (.int g359)]) (f' := (43, [some (.ref 45), some (.int y1)], [])) rfl (tX9_hasRoomFor (d + 26) n g359 I J 19 sp rr w nw o2133 eo2133) (fun v h hq => ?_)
          obtain ⟨rfl, rfl⟩ := hq
          refine mm_T.br (c := o2133 = 0) (a := ((46, [some (.ref 45), some (.int y1)], []), (107, I, J, mm_rf 19 sp rr w nw))) (b := ((48, [some (.ref 45), some (.int y1)], []), (107, I, J, mm_rf 19 sp rr w nw))) rfl (fun h2134 => ?_) (fun h2134 => ?_)
          · rw [if_pos h2134] at e
            refine mm_T.seg (f' := (47, [some (.ref 45), some (.int y1)], [(.int (-1))])) (h' := (107, I, J, mm_rf 19 sp rr w nw)) 1 rfl ?_
            cases e
            exact mm_T.ret rfl (kr _ rfl)
          · rw [if_neg h2134] at e
            refine mm_T.seg (f' := (2, [some (.ref 45), some (.int (y1 + 1))], [])) (h' := (107, I, J, mm_rf 19 sp rr w nw)) 2 rfl ?_
            refine mm_T.mask [true, true] ?_
            exact ih (y1 + 1) I J 19 sp rr w nw (Or.inr rfl) out e kr ke
        · rw [if_neg h2132] at e
          refine mm_T.seg (f' := (2, [some (.ref 45), some (.int (y1 + 1))], [])) (h' := (107, I, J, mm_rf 19 sp rr w nw)) 2 rfl ?_
          refine mm_T.mask [true, true] ?_
          exact ih (y1 + 1) I J 19 sp rr w nw (Or.inr rfl) out e kr ke
      · rw [if_neg h2131] at e
        cases e
        refine mm_T.mask [true, false] ?_
        exact ke _ rfl
set_option maxRecDepth 100000 in
set_option maxHeartbeats 4000000 in
theorem tX9_findFewest (d n : Nat) (I : Nat → Nat → Int32) (J : Nat → Nat → Int64) (rv sp rr w nw : Nat) (hrv : rv = 3 ∨ rv = 19) (out : Int32 × (Nat → Nat → Int32)) (e : fX9_findFewest n I rv = some out) : mm_T none (d + 28) 135 (mm_ent 135 [(.ref 45)]) (107, I, J, mm_rf rv sp rr w nw) (fun v h => v = some (.int out.1) ∧ h = (107, out.2, J, mm_rf rv sp rr w nw)) := by
  rcases hrv with rfl | rfl
  · unfold fX9_findFewest at e
    refine mm_T.seg (f' := (2, [some (.ref 45), some (.int 0)], [])) (h' := (107, I, J, mm_rf 3 sp rr w nw)) 2 rfl ?_
    refine mm_T.mask [true, true] ?_
    obtain ⟨o2135, eo2135, e⟩ := mm_bind e
    rcases o2135 with va2136 | vb2136
    · cases e
      refine tlX9_findFewest_L2 d _ n 0 I J 3 sp rr w nw (Or.inl rfl) _ eo2135 (fun z hz => ?_) (fun z hz => ?_)
      · cases hz; exact ⟨rfl, rfl⟩
      · cases hz
    · refine tlX9_findFewest_L2 d _ n 0 I J 3 sp rr w nw (Or.inl rfl) (.inr vb2136) eo2135 (fun z hz => ?_) (fun z hz => ?_)
      · cases hz
      · cases hz
        refine mm_T.seg (f' := (64, [some (.ref 45), none], [(.ref 47)])) (h' := (107, (mm_up I 45 6 8), J, mm_rf 3 sp rr w nw)) 5 rfl ?_
        refine mm_T.seg (f' := (65, [some (.ref 45), none], [(.int 0), (.ref 47)])) (h' := (107, (mm_up I 45 6 8), J, mm_rf 3 sp rr w nw)) 1 rfl ?_
        refine mm_T.call (t := 344) (as := [(.ref 47), (.int 0)]) (f' := (68, [some (.ref 45), none], [])) rfl (t_fill _ 47 7 0 (mm_up I 45 6 8) J (mm_rf 3 sp rr w nw) rfl rfl) (fun v h hq => ?_)
        obtain ⟨rfl, rfl⟩ := hq
        refine mm_T.seg (f' := (71, [some (.ref 45), none], [(.int 0), (.int 0), (.ref 45)])) (h' := (107, (mf_fill (mm_up I 45 6 8) 47 7 0), J, mm_rf 3 sp rr w nw)) 3 rfl ?_
        obtain ⟨o2160, eo2160, e⟩ := mm_bind e
        refine mm_T.call (t := 137) (as := [(.ref 45), (.int 0), (.int 0)]) (f' := (74, [some (.ref 45), none], [])) rfl (mm_T.deep (tX9_place d n 9 0 0 (mf_fill (mm_up I 45 6 8) 47 7 0) J 3 sp rr w nw (Or.inl rfl) o2160 eo2160) (by omega)) (fun v h hq => ?_)
        obtain ⟨rfl, rfl⟩ := hq
        refine mm_T.seg (f' := (80, [some (.ref 45), none], [(.int 8), (.int (o2160 45 6))])) (h' := (107, o2160, J, mm_rf 3 sp rr w nw)) 3 rfl ?_
        refine mm_T.br (c := (o2160 45 6) = 8) (a := ((83, [some (.ref 45), none], []), (107, o2160, J, mm_rf 3 sp rr w nw))) (b := ((87, [some (.ref 45), none], []), (107, o2160, J, mm_rf 3 sp rr w nw))) rfl (fun h2161 => ?_) (fun h2161 => ?_)
        · rw [if_pos h2161] at e
          refine mm_T.seg (f' := (91, [some (.ref 45), none], [(.int (-1))])) (h' := (107, o2160, J, mm_rf 3 sp rr w nw)) 2 rfl ?_
          cases e
          exact mm_T.ret rfl ⟨rfl, rfl⟩
        · rw [if_neg h2161] at e
          refine mm_T.seg (f' := (91, [some (.ref 45), none], [(.int (o2160 45 6))])) (h' := (107, o2160, J, mm_rf 3 sp rr w nw)) 2 rfl ?_
          cases e
          exact mm_T.ret rfl ⟨rfl, rfl⟩
  · unfold fX9_findFewest at e
    refine mm_T.seg (f' := (2, [some (.ref 45), some (.int 0)], [])) (h' := (107, I, J, mm_rf 19 sp rr w nw)) 2 rfl ?_
    refine mm_T.mask [true, true] ?_
    obtain ⟨o2135, eo2135, e⟩ := mm_bind e
    rcases o2135 with va2136 | vb2136
    · cases e
      refine tlX9_findFewest_L2 d _ n 0 I J 19 sp rr w nw (Or.inr rfl) _ eo2135 (fun z hz => ?_) (fun z hz => ?_)
      · cases hz; exact ⟨rfl, rfl⟩
      · cases hz
    · refine tlX9_findFewest_L2 d _ n 0 I J 19 sp rr w nw (Or.inr rfl) (.inr vb2136) eo2135 (fun z hz => ?_) (fun z hz => ?_)
      · cases hz
      · cases hz
        refine mm_T.seg (f' := (64, [some (.ref 45), none], [(.ref 47)])) (h' := (107, (mm_up I 45 6 8), J, mm_rf 19 sp rr w nw)) 5 rfl ?_
        refine mm_T.seg (f' := (65, [some (.ref 45), none], [(.int 0), (.ref 47)])) (h' := (107, (mm_up I 45 6 8), J, mm_rf 19 sp rr w nw)) 1 rfl ?_
        refine mm_T.call (t := 344) (as := [(.ref 47), (.int 0)]) (f' := (68, [some (.ref 45), none], [])) rfl (t_fill _ 47 7 0 (mm_up I 45 6 8) J (mm_rf 19 sp rr w nw) rfl rfl) (fun v h hq => ?_)
        obtain ⟨rfl, rfl⟩ := hq
        refine mm_T.seg (f' := (71, [some (.ref 45), none], [(.int 0), (.int 0), (.ref 45)])) (h' := (107, (mf_fill (mm_up I 45 6 8) 47 7 0), J, mm_rf 19 sp rr w nw)) 3 rfl ?_
        obtain ⟨o2160, eo2160, e⟩ := mm_bind e
        refine mm_T.call (t := 137) (as := [(.ref 45), (.int 0), (.int 0)]) (f' := (74, [some (.ref 45), none], [])) rfl (mm_T.deep (tX9_place d n 9 0 0 (mf_fill (mm_up I 45 6 8) 47 7 0) J 19 sp rr w nw (Or.inr rfl) o2160 eo2160) (by omega)) (fun v h hq => ?_)
        obtain ⟨rfl, rfl⟩ := hq
        refine mm_T.seg (f' := (80, [some (.ref 45), none], [(.int 8), (.int (o2160 45 6))])) (h' := (107, o2160, J, mm_rf 19 sp rr w nw)) 3 rfl ?_
        refine mm_T.br (c := (o2160 45 6) = 8) (a := ((83, [some (.ref 45), none], []), (107, o2160, J, mm_rf 19 sp rr w nw))) (b := ((87, [some (.ref 45), none], []), (107, o2160, J, mm_rf 19 sp rr w nw))) rfl (fun h2161 => ?_) (fun h2161 => ?_)
        · rw [if_pos h2161] at e
          refine mm_T.seg (f' := (91, [some (.ref 45), none], [(.int (-1))])) (h' := (107, o2160, J, mm_rf 19 sp rr w nw)) 2 rfl ?_
          cases e
          exact mm_T.ret rfl ⟨rfl, rfl⟩
        · rw [if_neg h2161] at e
          refine mm_T.seg (f' := (91, [some (.ref 45), none], [(.int (o2160 45 6))])) (h' := (107, o2160, J, mm_rf 19 sp rr w nw)) 2 rfl ?_
          cases e
          exact mm_T.ret rfl ⟨rfl, rfl⟩
set_option maxRecDepth 100000 in
set_option maxHeartbeats 4000000 in
theorem tX9_findTrips (d n : Nat) (x1 : Int32) (I : Nat → Nat → Int32) (J : Nat → Nat → Int64) (rv sp rr w nw : Nat) (hrv : rv = 3 ∨ rv = 19) (out : Int32 × (Nat → Nat → Int32)) (e : fX9_findTrips n x1 I rv = some out) : mm_T none (d + 29) 133 (mm_ent 133 [(.ref 45), (.int x1)]) (107, I, J, mm_rf rv sp rr w nw) (fun v h => v = some (.int out.1) ∧ h = (107, out.2, J, mm_rf rv sp rr w nw)) := by
  rcases hrv with rfl | rfl
  · unfold fX9_findTrips at e
    refine mm_T.seg (f' := (15, [some (.ref 45), some (.int x1)], [(.ref 46)])) (h' := (107, (mm_up (mm_up I 45 4 7) 45 5 1), J, mm_rf 3 sp rr w nw)) 8 rfl ?_
    refine mm_T.seg (f' := (19, [some (.ref 45), some (.int x1)], [(.ref 18), (.ref 46)])) (h' := (107, (mm_up (mm_up I 45 4 7) 45 5 1), J, mm_rf 3 sp rr w nw)) 2 rfl ?_
    refine mm_T.seg (f' := (23, [some (.ref 45), some (.int x1)], [(.int x1), (.ref 3), (.ref 46)])) (h' := (107, (mm_up (mm_up I 45 4 7) 45 5 1), J, mm_rf 3 sp rr w nw)) 2 rfl ?_
    obtain ⟨g355, hg355⟩ : ∃ z, fX5_wideOf x1 3 (mm_up (mm_up I 45 4 7) 45 5 1) = z := ⟨_, rfl⟩
    try rw [hg355] at e
    refine mm_T.call (t := 77) (as := [(.ref 3), (.int x1)]) (f' := (26, [some (.ref 45), some (.int x1)], [(.ref 46)])) rfl (tX5_wideOf (d + 27) x1 3 (mm_up (mm_up I 45 4 7) 45 5 1) J 3 sp rr w nw (Or.inl rfl) g355 hg355) (fun v h hq => ?_)
    obtain ⟨rfl, rfl⟩ := hq
    refine mm_T.call (t := 344) (as := [(.ref 46), (.int g355)]) (f' := (29, [some (.ref 45), some (.int x1)], [])) rfl (t_fill _ 46 7 g355 (mm_up (mm_up I 45 4 7) 45 5 1) J (mm_rf 3 sp rr w nw) rfl rfl) (fun v h hq => ?_)
    obtain ⟨rfl, rfl⟩ := hq
    refine mm_T.seg (f' := (30, [some (.ref 45), some (.int x1)], [(.ref 45)])) (h' := (107, (mf_fill (mm_up (mm_up I 45 4 7) 45 5 1) 46 7 g355), J, mm_rf 3 sp rr w nw)) 1 rfl ?_
    obtain ⟨o2162, eo2162, e⟩ := mm_bind e
    refine mm_T.call (t := 135) (as := [(.ref 45)]) (f' := (33, [some (.ref 45), some (.int x1)], [])) rfl (tX9_findFewest (d + 0) n (mf_fill (mm_up (mm_up I 45 4 7) 45 5 1) 46 7 g355) J 3 sp rr w nw (Or.inl rfl) o2162 eo2162) (fun v h hq => ?_)
    obtain ⟨rfl, rfl⟩ := hq
    cases e
    exact mm_T.ret rfl ⟨rfl, rfl⟩
  · unfold fX9_findTrips at e
    refine mm_T.seg (f' := (15, [some (.ref 45), some (.int x1)], [(.ref 46)])) (h' := (107, (mm_up (mm_up I 45 4 7) 45 5 1), J, mm_rf 19 sp rr w nw)) 8 rfl ?_
    refine mm_T.seg (f' := (19, [some (.ref 45), some (.int x1)], [(.ref 18), (.ref 46)])) (h' := (107, (mm_up (mm_up I 45 4 7) 45 5 1), J, mm_rf 19 sp rr w nw)) 2 rfl ?_
    refine mm_T.seg (f' := (23, [some (.ref 45), some (.int x1)], [(.int x1), (.ref 19), (.ref 46)])) (h' := (107, (mm_up (mm_up I 45 4 7) 45 5 1), J, mm_rf 19 sp rr w nw)) 2 rfl ?_
    obtain ⟨g355, hg355⟩ : ∃ z, fX5_wideOf x1 19 (mm_up (mm_up I 45 4 7) 45 5 1) = z := ⟨_, rfl⟩
    try rw [hg355] at e
    refine mm_T.call (t := 77) (as := [(.ref 19), (.int x1)]) (f' := (26, [some (.ref 45), some (.int x1)], [(.ref 46)])) rfl (tX5_wideOf (d + 27) x1 19 (mm_up (mm_up I 45 4 7) 45 5 1) J 19 sp rr w nw (Or.inr rfl) g355 hg355) (fun v h hq => ?_)
    obtain ⟨rfl, rfl⟩ := hq
    refine mm_T.call (t := 344) (as := [(.ref 46), (.int g355)]) (f' := (29, [some (.ref 45), some (.int x1)], [])) rfl (t_fill _ 46 7 g355 (mm_up (mm_up I 45 4 7) 45 5 1) J (mm_rf 19 sp rr w nw) rfl rfl) (fun v h hq => ?_)
    obtain ⟨rfl, rfl⟩ := hq
    refine mm_T.seg (f' := (30, [some (.ref 45), some (.int x1)], [(.ref 45)])) (h' := (107, (mf_fill (mm_up (mm_up I 45 4 7) 45 5 1) 46 7 g355), J, mm_rf 19 sp rr w nw)) 1 rfl ?_
    obtain ⟨o2162, eo2162, e⟩ := mm_bind e
    refine mm_T.call (t := 135) (as := [(.ref 45)]) (f' := (33, [some (.ref 45), some (.int x1)], [])) rfl (tX9_findFewest (d + 0) n (mf_fill (mm_up (mm_up I 45 4 7) 45 5 1) 46 7 g355) J 19 sp rr w nw (Or.inr rfl) o2162 eo2162) (fun v h hq => ?_)
    obtain ⟨rfl, rfl⟩ := hq
    cases e
    exact mm_T.ret rfl ⟨rfl, rfl⟩
set_option maxRecDepth 100000 in
set_option maxHeartbeats 4000000 in
theorem tlX9_findStowing_L21 (d : Nat) (Q : Option Value → mm_H → Prop) : ∀ (n : Nat) (y1 : Int32) (I : Nat → Nat → Int32) (J : Nat → Nat → Int64) (rv sp rr w nw : Nat), (rv = 3 ∨ rv = 19) → ∀ (out : (Nat → Nat → Int32)), fX9_findStowing_L21 n y1 I rv = some out → mm_T none (d + 29) 134 (80, [some (.ref 45), none, none], []) (107, out, J, mm_rf rv sp rr w nw) Q → mm_T none (d + 29) 134 (21, [some (.ref 45), some (.int y1), none], []) (107, I, J, mm_rf rv sp rr w nw) Q := by
  intro n
  induction n with
  | zero =>
    intro y1 I J rv sp rr w nw hrv out e k
    rw [fX9_findStowing_L21] at e; cases e
  | succ n ih =>
    intro y1 I J rv sp rr w nw hrv out e k
    rcases hrv with rfl | rfl
    · rw [fX9_findStowing_L21] at e
      refine mm_T.seg (f' := (26, [some (.ref 45), some (.int y1), none], [(.int (I 45 4)), (.int y1)])) (h' := (107, I, J, mm_rf 3 sp rr w nw)) 3 rfl ?_
      refine mm_T.br (c := y1 < (I 45 4)) (a := ((29, [some (.ref 45), some (.int y1), none], []), (107, I, J, mm_rf 3 sp rr w nw))) (b := ((80, [some (.ref 45), some (.int y1), none], []), (107, I, J, mm_rf 3 sp rr w nw))) rfl (fun h2166 => ?_) (fun h2166 => ?_)
      · rw [if_pos h2166] at e
        refine mm_T.seg (f' := (33, [some (.ref 45), some (.int y1), none], [(.ref 18)])) (h' := (107, I, J, mm_rf 3 sp rr w nw)) 2 rfl ?_
        refine mm_T.seg (f' := (37, [some (.ref 45), some (.int y1), none], [(.int y1), (.ref 3)])) (h' := (107, I, J, mm_rf 3 sp rr w nw)) 2 rfl ?_
        obtain ⟨g368, hg368⟩ : ∃ z, fX5_wideOf y1 3 I = z := ⟨_, rfl⟩
        try rw [hg368] at e
        refine mm_T.call (t := 77) (as := [(.ref 3), (.int y1)]) (f' := (40, [some (.ref 45), some (.int y1), none], [])) rfl (tX5_wideOf (d + 27) y1 3 I J 3 sp rr w nw (Or.inl rfl) g368 hg368) (fun v h hq => ?_)
        obtain ⟨rfl, rfl⟩ := hq
        refine mm_T.seg (f' := (44, [some (.ref 45), some (.int y1), none], [(.ref 18), (.int g368)])) (h' := (107, I, J, mm_rf 3 sp rr w nw)) 2 rfl ?_
        refine mm_T.seg (f' := (45, [some (.ref 45), some (.int y1), none], [(.int y1), (.ref 18), (.int g368)])) (h' := (107, I, J, mm_rf 3 sp rr w nw)) 1 rfl ?_
        obtain ⟨o2167, eo2167, e⟩ := mm_bind e
        refine mm_T.call (t := 118) (as := [(.ref 18), (.int y1)]) (f' := (48, [some (.ref 45), some (.int y1), none], [(.int g368)])) rfl (tX7_burdenOf (d + 26) n y1 I J 3 sp rr w nw (Or.inl rfl) o2167 eo2167) (fun v h hq => ?_)
        obtain ⟨rfl, rfl⟩ := hq
        refine mm_T.seg (f' := (54, [some (.ref 45), some (.int y1), some (.int (g368 - o2167))], [(.ref 46)])) (h' := (107, I, J, mm_rf 3 sp rr w nw)) 4 rfl ?_
        refine mm_T.seg (f' := (59, [some (.ref 45), some (.int y1), some (.int (g368 - o2167))], [(.ref 18), (.int y1), (.ref 46)])) (h' := (107, I, J, mm_rf 3 sp rr w nw)) 3 rfl ?_
        refine mm_T.seg (f' := (60, [some (.ref 45), some (.int y1), some (.int (g368 - o2167))], [(.int y1), (.ref 18), (.int y1), (.ref 46)])) (h' := (107, I, J, mm_rf 3 sp rr w nw)) 1 rfl ?_
        obtain ⟨g369, hg369⟩ : ∃ z, fX7_rowOf y1 I = z := ⟨_, rfl⟩
        try rw [hg369] at e
        refine mm_T.call (t := 106) (as := [(.ref 18), (.int y1)]) (f' := (63, [some (.ref 45), some (.int y1), some (.int (g368 - o2167))], [(.int y1), (.ref 46)])) rfl (tX7_rowOf (d + 26) y1 I J 3 sp rr w nw g369 hg369) (fun v h hq => ?_)
        obtain ⟨rfl, rfl⟩ := hq
        refine mm_T.br (c := g369 = 0) (a := ((66, [some (.ref 45), some (.int y1), some (.int (g368 - o2167))], [(.int y1), (.ref 46)]), (107, I, J, mm_rf 3 sp rr w nw))) (b := ((70, [some (.ref 45), some (.int y1), some (.int (g368 - o2167))], [(.int y1), (.ref 46)]), (107, I, J, mm_rf 3 sp rr w nw))) rfl (fun h2168 => ?_) (fun h2168 => ?_)
        · rw [if_pos h2168] at e
          refine mm_T.seg (f' := (71, [some (.ref 45), some (.int y1), some (.int (g368 - o2167))], [(.int (g368 - o2167)), (.int y1), (.ref 46)])) (h' := (107, I, J, mm_rf 3 sp rr w nw)) 2 rfl ?_
          refine mm_T.call (t := 205) (as := [(.ref 46), (.int y1), (.int (g368 - o2167))]) (f' := (74, [some (.ref 45), some (.int y1), some (.int (g368 - o2167))], [])) rfl (t_put _ 46 7 y1 (g368 - o2167) I J (mm_rf 3 sp rr w nw) rfl rfl) (fun v h hq => ?_)
          obtain ⟨rfl, rfl⟩ := hq
          refine mm_T.seg (f' := (21, [some (.ref 45), some (.int (y1 + 1)), some (.int (g368 - o2167))], [])) (h' := (107, (mf_put I 46 7 y1 (g368 - o2167)), J, mm_rf 3 sp rr w nw)) 2 rfl ?_
          refine mm_T.mask [true, true, false] ?_
          exact ih (y1 + 1) (mf_put I 46 7 y1 (g368 - o2167)) J 3 sp rr w nw (Or.inl rfl) out e k
        · rw [if_neg h2168] at e
          refine mm_T.seg (f' := (71, [some (.ref 45), some (.int y1), some (.int (g368 - o2167))], [(.int (-1)), (.int y1), (.ref 46)])) (h' := (107, I, J, mm_rf 3 sp rr w nw)) 1 rfl ?_
          refine mm_T.call (t := 205) (as := [(.ref 46), (.int y1), (.int (-1))]) (f' := (74, [some (.ref 45), some (.int y1), some (.int (g368 - o2167))], [])) rfl (t_put _ 46 7 y1 (-1) I J (mm_rf 3 sp rr w nw) rfl rfl) (fun v h hq => ?_)
          obtain ⟨rfl, rfl⟩ := hq
          refine mm_T.seg (f' := (21, [some (.ref 45), some (.int (y1 + 1)), some (.int (g368 - o2167))], [])) (h' := (107, (mf_put I 46 7 y1 (-1)), J, mm_rf 3 sp rr w nw)) 2 rfl ?_
          refine mm_T.mask [true, true, false] ?_
          exact ih (y1 + 1) (mf_put I 46 7 y1 (-1)) J 3 sp rr w nw (Or.inl rfl) out e k
      · rw [if_neg h2166] at e
        cases e
        refine mm_T.mask [true, false, false] ?_
        exact k
    · rw [fX9_findStowing_L21] at e
      refine mm_T.seg (f' := (26, [some (.ref 45), some (.int y1), none], [(.int (I 45 4)), (.int y1)])) (h' := (107, I, J, mm_rf 19 sp rr w nw)) 3 rfl ?_
      refine mm_T.br (c := y1 < (I 45 4)) (a := ((29, [some (.ref 45), some (.int y1), none], []), (107, I, J, mm_rf 19 sp rr w nw))) (b := ((80, [some (.ref 45), some (.int y1), none], []), (107, I, J, mm_rf 19 sp rr w nw))) rfl (fun h2166 => ?_) (fun h2166 => ?_)
      · rw [if_pos h2166] at e
        refine mm_T.seg (f' := (33, [some (.ref 45), some (.int y1), none], [(.ref 18)])) (h' := (107, I, J, mm_rf 19 sp rr w nw)) 2 rfl ?_
        refine mm_T.seg (f' := (37, [some (.ref 45), some (.int y1), none], [(.int y1), (.ref 19)])) (h' := (107, I, J, mm_rf 19 sp rr w nw)) 2 rfl ?_
        obtain ⟨g368, hg368⟩ : ∃ z, fX5_wideOf y1 19 I = z := ⟨_, rfl⟩
        try rw [hg368] at e
        refine mm_T.call (t := 77) (as := [(.ref 19), (.int y1)]) (f' := (40, [some (.ref 45), some (.int y1), none], [])) rfl (tX5_wideOf (d + 27) y1 19 I J 19 sp rr w nw (Or.inr rfl) g368 hg368) (fun v h hq => ?_)
        obtain ⟨rfl, rfl⟩ := hq
        refine mm_T.seg (f' := (44, [some (.ref 45), some (.int y1), none], [(.ref 18), (.int g368)])) (h' := (107, I, J, mm_rf 19 sp rr w nw)) 2 rfl ?_
        refine mm_T.seg (f' := (45, [some (.ref 45), some (.int y1), none], [(.int y1), (.ref 18), (.int g368)])) (h' := (107, I, J, mm_rf 19 sp rr w nw)) 1 rfl ?_
        obtain ⟨o2167, eo2167, e⟩ := mm_bind e
        refine mm_T.call (t := 118) (as := [(.ref 18), (.int y1)]) (f' := (48, [some (.ref 45), some (.int y1), none], [(.int g368)])) rfl (tX7_burdenOf (d + 26) n y1 I J 19 sp rr w nw (Or.inr rfl) o2167 eo2167) (fun v h hq => ?_)
        obtain ⟨rfl, rfl⟩ := hq
        refine mm_T.seg (f' := (54, [some (.ref 45), some (.int y1), some (.int (g368 - o2167))], [(.ref 46)])) (h' := (107, I, J, mm_rf 19 sp rr w nw)) 4 rfl ?_
        refine mm_T.seg (f' := (59, [some (.ref 45), some (.int y1), some (.int (g368 - o2167))], [(.ref 18), (.int y1), (.ref 46)])) (h' := (107, I, J, mm_rf 19 sp rr w nw)) 3 rfl ?_
        refine mm_T.seg (f' := (60, [some (.ref 45), some (.int y1), some (.int (g368 - o2167))], [(.int y1), (.ref 18), (.int y1), (.ref 46)])) (h' := (107, I, J, mm_rf 19 sp rr w nw)) 1 rfl ?_
        obtain ⟨g369, hg369⟩ : ∃ z, fX7_rowOf y1 I = z := ⟨_, rfl⟩
        try rw [hg369] at e
        refine mm_T.call (t := 106) (as := [(.ref 18), (.int y1)]) (f' := (63, [some (.ref 45), some (.int y1), some (.int (g368 - o2167))], [(.int y1), (.ref 46)])) rfl (tX7_rowOf (d + 26) y1 I J 19 sp rr w nw g369 hg369) (fun v h hq => ?_)
        obtain ⟨rfl, rfl⟩ := hq
        refine mm_T.br (c := g369 = 0) (a := ((66, [some (.ref 45), some (.int y1), some (.int (g368 - o2167))], [(.int y1), (.ref 46)]), (107, I, J, mm_rf 19 sp rr w nw))) (b := ((70, [some (.ref 45), some (.int y1), some (.int (g368 - o2167))], [(.int y1), (.ref 46)]), (107, I, J, mm_rf 19 sp rr w nw))) rfl (fun h2168 => ?_) (fun h2168 => ?_)
        · rw [if_pos h2168] at e
          refine mm_T.seg (f' := (71, [some (.ref 45), some (.int y1), some (.int (g368 - o2167))], [(.int (g368 - o2167)), (.int y1), (.ref 46)])) (h' := (107, I, J, mm_rf 19 sp rr w nw)) 2 rfl ?_
          refine mm_T.call (t := 205) (as := [(.ref 46), (.int y1), (.int (g368 - o2167))]) (f' := (74, [some (.ref 45), some (.int y1), some (.int (g368 - o2167))], [])) rfl (t_put _ 46 7 y1 (g368 - o2167) I J (mm_rf 19 sp rr w nw) rfl rfl) (fun v h hq => ?_)
          obtain ⟨rfl, rfl⟩ := hq
          refine mm_T.seg (f' := (21, [some (.ref 45), some (.int (y1 + 1)), some (.int (g368 - o2167))], [])) (h' := (107, (mf_put I 46 7 y1 (g368 - o2167)), J, mm_rf 19 sp rr w nw)) 2 rfl ?_
          refine mm_T.mask [true, true, false] ?_
          exact ih (y1 + 1) (mf_put I 46 7 y1 (g368 - o2167)) J 19 sp rr w nw (Or.inr rfl) out e k
        · rw [if_neg h2168] at e
          refine mm_T.seg (f' := (71, [some (.ref 45), some (.int y1), some (.int (g368 - o2167))], [(.int (-1)), (.int y1), (.ref 46)])) (h' := (107, I, J, mm_rf 19 sp rr w nw)) 1 rfl ?_
          refine mm_T.call (t := 205) (as := [(.ref 46), (.int y1), (.int (-1))]) (f' := (74, [some (.ref 45), some (.int y1), some (.int (g368 - o2167))], [])) rfl (t_put _ 46 7 y1 (-1) I J (mm_rf 19 sp rr w nw) rfl rfl) (fun v h hq => ?_)
          obtain ⟨rfl, rfl⟩ := hq
          refine mm_T.seg (f' := (21, [some (.ref 45), some (.int (y1 + 1)), some (.int (g368 - o2167))], [])) (h' := (107, (mf_put I 46 7 y1 (-1)), J, mm_rf 19 sp rr w nw)) 2 rfl ?_
          refine mm_T.mask [true, true, false] ?_
          exact ih (y1 + 1) (mf_put I 46 7 y1 (-1)) J 19 sp rr w nw (Or.inr rfl) out e k
      · rw [if_neg h2166] at e
        cases e
        refine mm_T.mask [true, false, false] ?_
        exact k
set_option maxRecDepth 100000 in
set_option maxHeartbeats 4000000 in
theorem tX9_findStowing (d n : Nat) (I : Nat → Nat → Int32) (J : Nat → Nat → Int64) (rv sp rr w nw : Nat) (hrv : rv = 3 ∨ rv = 19) (out : Int32 × (Nat → Nat → Int32)) (e : fX9_findStowing n I rv = some out) : mm_T none (d + 29) 134 (mm_ent 134 [(.ref 45)]) (107, I, J, mm_rf rv sp rr w nw) (fun v h => v = some (.int out.1) ∧ h = (107, out.2, J, mm_rf rv sp rr w nw)) := by
  rcases hrv with rfl | rfl
  · unfold fX9_findStowing at e
    refine mm_T.seg (f' := (5, [some (.ref 45), none, none], [(.ref 18), (.ref 45)])) (h' := (107, I, J, mm_rf 3 sp rr w nw)) 3 rfl ?_
    refine mm_T.seg (f' := (21, [some (.ref 45), some (.int 0), none], [])) (h' := (107, (mm_up (mm_up I 45 4 (I 3 4)) 45 5 0), J, mm_rf 3 sp rr w nw)) 8 rfl ?_
    refine mm_T.mask [true, true, false] ?_
    obtain ⟨o2169, eo2169, e⟩ := mm_bind e
    refine tlX9_findStowing_L21 d _ n 0 (mm_up (mm_up I 45 4 (I 3 4)) 45 5 0) J 3 sp rr w nw (Or.inl rfl) o2169 eo2169 ?_
    refine mm_T.seg (f' := (81, [some (.ref 45), none, none], [(.ref 45)])) (h' := (107, o2169, J, mm_rf 3 sp rr w nw)) 1 rfl ?_
    obtain ⟨o2170, eo2170, e⟩ := mm_bind e
    refine mm_T.call (t := 135) (as := [(.ref 45)]) (f' := (84, [some (.ref 45), none, none], [])) rfl (tX9_findFewest (d + 0) n o2169 J 3 sp rr w nw (Or.inl rfl) o2170 eo2170) (fun v h hq => ?_)
    obtain ⟨rfl, rfl⟩ := hq
    cases e
    exact mm_T.ret rfl ⟨rfl, rfl⟩
  · unfold fX9_findStowing at e
    refine mm_T.seg (f' := (5, [some (.ref 45), none, none], [(.ref 18), (.ref 45)])) (h' := (107, I, J, mm_rf 19 sp rr w nw)) 3 rfl ?_
    refine mm_T.seg (f' := (21, [some (.ref 45), some (.int 0), none], [])) (h' := (107, (mm_up (mm_up I 45 4 (I 19 4)) 45 5 0), J, mm_rf 19 sp rr w nw)) 8 rfl ?_
    refine mm_T.mask [true, true, false] ?_
    obtain ⟨o2169, eo2169, e⟩ := mm_bind e
    refine tlX9_findStowing_L21 d _ n 0 (mm_up (mm_up I 45 4 (I 19 4)) 45 5 0) J 19 sp rr w nw (Or.inr rfl) o2169 eo2169 ?_
    refine mm_T.seg (f' := (81, [some (.ref 45), none, none], [(.ref 45)])) (h' := (107, o2169, J, mm_rf 19 sp rr w nw)) 1 rfl ?_
    obtain ⟨o2170, eo2170, e⟩ := mm_bind e
    refine mm_T.call (t := 135) (as := [(.ref 45)]) (f' := (84, [some (.ref 45), none, none], [])) rfl (tX9_findFewest (d + 0) n o2169 J 19 sp rr w nw (Or.inr rfl) o2170 eo2170) (fun v h hq => ?_)
    obtain ⟨rfl, rfl⟩ := hq
    cases e
    exact mm_T.ret rfl ⟨rfl, rfl⟩
set_option maxRecDepth 100000 in
set_option maxHeartbeats 4000000 in
theorem tX10_forget (d : Nat) (I : Nat → Nat → Int32) (J : Nat → Nat → Int64) (rv sp rr w nw : Nat) (out : (Nat → Nat → Int32)) (e : fX10_forget I = out) : mm_T none (d + 0) 140 (mm_ent 140 [(.ref 54)]) (107, I, J, mm_rf rv sp rr w nw) (fun v h => v = none ∧ h = (107, out, J, mm_rf rv sp rr w nw)) := by
  unfold fX10_forget at e
  refine mm_T.seg (f' := (10, [some (.ref 54)], [])) (h' := (107, (mm_up (mm_up I 54 9 0) 54 5 0), J, mm_rf rv sp rr w nw)) 6 rfl ?_
  cases e
  exact mm_T.ret rfl ⟨rfl, rfl⟩
set_option maxRecDepth 100000 in
set_option maxHeartbeats 4000000 in
theorem tX10_get (d : Nat) (x1 : Int32) (x2 : Int32) (I : Nat → Nat → Int32) (J : Nat → Nat → Int64) (rv sp rr w nw : Nat) (out : Int32) (e : fX10_get x1 x2 I = out) : mm_T none (d + 1) 141 (mm_ent 141 [(.ref 54), (.int x1), (.int x2)]) (107, I, J, mm_rf rv sp rr w nw) (fun v h => v = some (.int out) ∧ h = (107, I, J, mm_rf rv sp rr w nw)) := by
  unfold fX10_get at e
  refine mm_T.seg (f' := (4, [some (.ref 54), some (.int x1), some (.int x2)], [(.ref 55)])) (h' := (107, I, J, mm_rf rv sp rr w nw)) 2 rfl ?_
  refine mm_T.seg (f' := (10, [some (.ref 54), some (.int x1), some (.int x2)], [(.int ((x1 * 6) + x2)), (.ref 55)])) (h' := (107, I, J, mm_rf rv sp rr w nw)) 5 rfl ?_
  refine mm_T.call (t := 204) (as := [(.ref 55), (.int ((x1 * 6) + x2))]) (f' := (13, [some (.ref 54), some (.int x1), some (.int x2)], [])) rfl (t_pick _ 55 180 ((x1 * 6) + x2) I J (mm_rf rv sp rr w nw) rfl rfl) (fun v h hq => ?_)
  obtain ⟨rfl, rfl⟩ := hq
  cases e
  exact mm_T.ret rfl ⟨rfl, rfl⟩
set_option maxRecDepth 100000 in
set_option maxHeartbeats 4000000 in
theorem tX10_set (d : Nat) (x1 : Int32) (x2 : Int32) (x3 : Int32) (I : Nat → Nat → Int32) (J : Nat → Nat → Int64) (rv sp rr w nw : Nat) (out : (Nat → Nat → Int32)) (e : fX10_set x1 x2 x3 I = out) : mm_T none (d + 1) 142 (mm_ent 142 [(.ref 54), (.int x1), (.int x2), (.int x3)]) (107, I, J, mm_rf rv sp rr w nw) (fun v h => v = none ∧ h = (107, out, J, mm_rf rv sp rr w nw)) := by
  unfold fX10_set at e
  refine mm_T.seg (f' := (4, [some (.ref 54), some (.int x1), some (.int x2), some (.int x3)], [(.ref 55)])) (h' := (107, I, J, mm_rf rv sp rr w nw)) 2 rfl ?_
  refine mm_T.seg (f' := (11, [some (.ref 54), some (.int x1), some (.int x2), some (.int x3)], [(.int x3), (.int ((x1 * 6) + x2)), (.ref 55)])) (h' := (107, I, J, mm_rf rv sp rr w nw)) 6 rfl ?_
  refine mm_T.call (t := 205) (as := [(.ref 55), (.int ((x1 * 6) + x2)), (.int x3)]) (f' := (14, [some (.ref 54), some (.int x1), some (.int x2), some (.int x3)], [])) rfl (t_put _ 55 180 ((x1 * 6) + x2) x3 I J (mm_rf rv sp rr w nw) rfl rfl) (fun v h hq => ?_)
  obtain ⟨rfl, rfl⟩ := hq
  cases e
  exact mm_T.ret rfl ⟨rfl, rfl⟩
set_option maxRecDepth 100000 in
set_option maxHeartbeats 4000000 in
theorem tbX10_tell_J53 (d : Nat) (I : Nat → Nat → Int32) (J : Nat → Nat → Int64) (rv sp rr w nw : Nat) (out : Int32 × (Nat → Nat → Int32)) (e : fX10_tell_J53 I = out) : mm_T none (d + 2) 143 (53, [none, none, none, none, none, none], []) (107, I, J, mm_rf rv sp rr w nw) (fun v h => v = some (.int out.1) ∧ h = (107, out.2, J, mm_rf rv sp rr w nw)) := by
  unfold fX10_tell_J53 at e
  refine mm_T.seg (f' := (54, [none, none, none, none, none, none], [(.int (-1))])) (h' := (107, I, J, mm_rf rv sp rr w nw)) 1 rfl ?_
  cases e
  exact mm_T.ret rfl ⟨rfl, rfl⟩
set_option maxRecDepth 100000 in
set_option maxHeartbeats 4000000 in
theorem tbX10_tell_J101 (d : Nat) (u0 : Int32) (u1 : Int32) (u2 : Int32) (I : Nat → Nat → Int32) (J : Nat → Nat → Int64) (rv sp rr w nw : Nat) (out : Int32 × (Nat → Nat → Int32)) (e : fX10_tell_J101 u0 u1 u2 I = out) : mm_T none (d + 2) 143 (101, [some (.ref 54), none, none, none, none, none], [(.int u0), (.int u1), (.int u2), (.ref 54)]) (107, I, J, mm_rf rv sp rr w nw) (fun v h => v = some (.int out.1) ∧ h = (107, out.2, J, mm_rf rv sp rr w nw)) := by
  unfold fX10_tell_J101 at e
  obtain ⟨g373, hg373⟩ : ∃ z, fX10_set u2 u1 u0 I = z := ⟨_, rfl⟩
  try rw [hg373] at e
  refine mm_T.call (t := 142) (as := [(.ref 54), (.int u2), (.int u1), (.int u0)]) (f' := (104, [some (.ref 54), none, none, none, none, none], [])) rfl (tX10_set (d + 0) u2 u1 u0 I J rv sp rr w nw g373 hg373) (fun v h hq => ?_)
  obtain ⟨rfl, rfl⟩ := hq
  refine mm_T.seg (f' := (114, [some (.ref 54), none, none, none, none, none], [(.int (g373 54 10)), (.int 4), (.int (g373 54 9)), (.ref 54)])) (h' := (107, g373, J, mm_rf rv sp rr w nw)) 6 rfl ?_
  obtain ⟨g374, hg374⟩ : ∃ z, fX10_set (g373 54 9) 4 (g373 54 10) g373 = z := ⟨_, rfl⟩
  try rw [hg374] at e
  refine mm_T.call (t := 142) (as := [(.ref 54), (.int (g373 54 9)), (.int 4), (.int (g373 54 10))]) (f' := (117, [some (.ref 54), none, none, none, none, none], [])) rfl (tX10_set (d + 0) (g373 54 9) 4 (g373 54 10) g373 J rv sp rr w nw g374 hg374) (fun v h hq => ?_)
  obtain ⟨rfl, rfl⟩ := hq
  refine mm_T.seg (f' := (124, [some (.ref 54), none, none, none, none, none], [(.int (-1)), (.int 5), (.int (g374 54 9)), (.ref 54)])) (h' := (107, g374, J, mm_rf rv sp rr w nw)) 5 rfl ?_
  obtain ⟨g375, hg375⟩ : ∃ z, fX10_set (g374 54 9) 5 (-1) g374 = z := ⟨_, rfl⟩
  try rw [hg375] at e
  refine mm_T.call (t := 142) (as := [(.ref 54), (.int (g374 54 9)), (.int 5), (.int (-1))]) (f' := (127, [some (.ref 54), none, none, none, none, none], [])) rfl (tX10_set (d + 0) (g374 54 9) 5 (-1) g374 J rv sp rr w nw g375 hg375) (fun v h hq => ?_)
  obtain ⟨rfl, rfl⟩ := hq
  refine mm_T.seg (f' := (143, [some (.ref 54), none, none, none, none, none], [(.int (((g375 54 9) + 1) - 1))])) (h' := (107, (mm_up g375 54 9 ((g375 54 9) + 1)), J, mm_rf rv sp rr w nw)) 10 rfl ?_
  cases e
  exact mm_T.ret rfl ⟨rfl, rfl⟩
set_option maxRecDepth 100000 in
set_option maxHeartbeats 4000000 in
theorem tbX10_tell_J37 (d : Nat) (y1 : Int32) (y2 : Int32) (y3 : Int32) (y4 : Int32) (u0 : Int32) (I : Nat → Nat → Int32) (J : Nat → Nat → Int64) (rv sp rr w nw : Nat) (out : Int32 × (Nat → Nat → Int32)) (e : fX10_tell_J37 y1 y2 y3 y4 u0 I = out) : mm_T none (d + 2) 143 (37, [some (.ref 54), some (.int y1), some (.int y2), some (.int y3), some (.int y4), none], [(.int u0)]) (107, I, J, mm_rf rv sp rr w nw) (fun v h => v = some (.int out.1) ∧ h = (107, out.2, J, mm_rf rv sp rr w nw)) := by
  unfold fX10_tell_J37 at e
  refine mm_T.seg (f' := (41, [some (.ref 54), some (.int y1), some (.int y2), some (.int y3), some (.int y4), some (.int u0)], [(.int u0)])) (h' := (107, I, J, mm_rf rv sp rr w nw)) 2 rfl ?_
  refine mm_T.br (c := u0 = 0) (a := ((53, [some (.ref 54), some (.int y1), some (.int y2), some (.int y3), some (.int y4), some (.int u0)], []), (107, I, J, mm_rf rv sp rr w nw))) (b := ((44, [some (.ref 54), some (.int y1), some (.int y2), some (.int y3), some (.int y4), some (.int u0)], []), (107, I, J, mm_rf rv sp rr w nw))) rfl (fun h2172 => ?_) (fun h2172 => ?_)
  · rw [if_pos h2172] at e
    refine mm_T.mask [false, false, false, false, false, false] ?_
    exact tbX10_tell_J53 d I J rv sp rr w nw out e
  · rw [if_neg h2172] at e
    refine mm_T.seg (f' := (50, [some (.ref 54), some (.int y1), some (.int y2), some (.int y3), some (.int y4), some (.int u0)], [(.int 30), (.int (I 54 9))])) (h' := (107, I, J, mm_rf rv sp rr w nw)) 3 rfl ?_
    refine mm_T.br (c := (I 54 9) < 30) (a := ((55, [some (.ref 54), some (.int y1), some (.int y2), some (.int y3), some (.int y4), some (.int u0)], []), (107, I, J, mm_rf rv sp rr w nw))) (b := ((53, [some (.ref 54), some (.int y1), some (.int y2), some (.int y3), some (.int y4), some (.int u0)], []), (107, I, J, mm_rf rv sp rr w nw))) rfl (fun h2173 => ?_) (fun h2173 => ?_)
    · rw [if_pos h2173] at e
      refine mm_T.seg (f' := (62, [some (.ref 54), some (.int y1), some (.int y2), some (.int y3), some (.int y4), some (.int u0)], [(.int y1), (.int 0), (.int (I 54 9)), (.ref 54)])) (h' := (107, I, J, mm_rf rv sp rr w nw)) 5 rfl ?_
      obtain ⟨g370, hg370⟩ : ∃ z, fX10_set (I 54 9) 0 y1 I = z := ⟨_, rfl⟩
      try rw [hg370] at e
      refine mm_T.call (t := 142) (as := [(.ref 54), (.int (I 54 9)), (.int 0), (.int y1)]) (f' := (65, [some (.ref 54), some (.int y1), some (.int y2), some (.int y3), some (.int y4), some (.int u0)], [])) rfl (tX10_set (d + 0) (I 54 9) 0 y1 I J rv sp rr w nw g370 hg370) (fun v h hq => ?_)
      obtain ⟨rfl, rfl⟩ := hq
      refine mm_T.seg (f' := (72, [some (.ref 54), some (.int y1), some (.int y2), some (.int y3), some (.int y4), some (.int u0)], [(.int y2), (.int 1), (.int (g370 54 9)), (.ref 54)])) (h' := (107, g370, J, mm_rf rv sp rr w nw)) 5 rfl ?_
      obtain ⟨g371, hg371⟩ : ∃ z, fX10_set (g370 54 9) 1 y2 g370 = z := ⟨_, rfl⟩
      try rw [hg371] at e
      refine mm_T.call (t := 142) (as := [(.ref 54), (.int (g370 54 9)), (.int 1), (.int y2)]) (f' := (75, [some (.ref 54), some (.int y1), some (.int y2), some (.int y3), some (.int y4), some (.int u0)], [])) rfl (tX10_set (d + 0) (g370 54 9) 1 y2 g370 J rv sp rr w nw g371 hg371) (fun v h hq => ?_)
      obtain ⟨rfl, rfl⟩ := hq
      refine mm_T.seg (f' := (82, [some (.ref 54), some (.int y1), some (.int y2), some (.int y3), some (.int y4), some (.int u0)], [(.int y3), (.int 2), (.int (g371 54 9)), (.ref 54)])) (h' := (107, g371, J, mm_rf rv sp rr w nw)) 5 rfl ?_
      obtain ⟨g372, hg372⟩ : ∃ z, fX10_set (g371 54 9) 2 y3 g371 = z := ⟨_, rfl⟩
      try rw [hg372] at e
      refine mm_T.call (t := 142) (as := [(.ref 54), (.int (g371 54 9)), (.int 2), (.int y3)]) (f' := (85, [some (.ref 54), some (.int y1), some (.int y2), some (.int y3), some (.int y4), some (.int u0)], [])) rfl (tX10_set (d + 0) (g371 54 9) 2 y3 g371 J rv sp rr w nw g372 hg372) (fun v h hq => ?_)
      obtain ⟨rfl, rfl⟩ := hq
      refine mm_T.seg (f' := (93, [some (.ref 54), some (.int y1), some (.int y2), some (.int y3), some (.int y4), some (.int u0)], [(.int y4), (.int 3), (.int (g372 54 9)), (.ref 54)])) (h' := (107, g372, J, mm_rf rv sp rr w nw)) 5 rfl ?_
      refine mm_T.br (c := y4 = 0) (a := ((100, [some (.ref 54), some (.int y1), some (.int y2), some (.int y3), some (.int y4), some (.int u0)], [(.int 3), (.int (g372 54 9)), (.ref 54)]), (107, g372, J, mm_rf rv sp rr w nw))) (b := ((96, [some (.ref 54), some (.int y1), some (.int y2), some (.int y3), some (.int y4), some (.int u0)], [(.int 3), (.int (g372 54 9)), (.ref 54)]), (107, g372, J, mm_rf rv sp rr w nw))) rfl (fun h2174 => ?_) (fun h2174 => ?_)
      · rw [if_pos h2174] at e
        refine mm_T.seg (f' := (101, [some (.ref 54), some (.int y1), some (.int y2), some (.int y3), some (.int y4), some (.int u0)], [(.int 0), (.int 3), (.int (g372 54 9)), (.ref 54)])) (h' := (107, g372, J, mm_rf rv sp rr w nw)) 1 rfl ?_
        refine mm_T.mask [true, false, false, false, false, false] ?_
        exact tbX10_tell_J101 d 0 3 (g372 54 9) g372 J rv sp rr w nw out e
      · rw [if_neg h2174] at e
        refine mm_T.seg (f' := (101, [some (.ref 54), some (.int y1), some (.int y2), some (.int y3), some (.int y4), some (.int u0)], [(.int 1), (.int 3), (.int (g372 54 9)), (.ref 54)])) (h' := (107, g372, J, mm_rf rv sp rr w nw)) 2 rfl ?_
        refine mm_T.mask [true, false, false, false, false, false] ?_
        exact tbX10_tell_J101 d 1 3 (g372 54 9) g372 J rv sp rr w nw out e
    · rw [if_neg h2173] at e
      refine mm_T.mask [false, false, false, false, false, false] ?_
      exact tbX10_tell_J53 d I J rv sp rr w nw out e
set_option maxRecDepth 100000 in
set_option maxHeartbeats 4000000 in
theorem tbX10_tell_J36 (d : Nat) (y1 : Int32) (y2 : Int32) (y3 : Int32) (y4 : Int32) (I : Nat → Nat → Int32) (J : Nat → Nat → Int64) (rv sp rr w nw : Nat) (out : Int32 × (Nat → Nat → Int32)) (e : fX10_tell_J36 y1 y2 y3 y4 I = out) : mm_T none (d + 2) 143 (36, [some (.ref 54), some (.int y1), some (.int y2), some (.int y3), some (.int y4), none], []) (107, I, J, mm_rf rv sp rr w nw) (fun v h => v = some (.int out.1) ∧ h = (107, out.2, J, mm_rf rv sp rr w nw)) := by
  unfold fX10_tell_J36 at e
  refine mm_T.seg (f' := (37, [some (.ref 54), some (.int y1), some (.int y2), some (.int y3), some (.int y4), none], [(.int 0)])) (h' := (107, I, J, mm_rf rv sp rr w nw)) 1 rfl ?_
  refine mm_T.mask [true, true, true, true, true, false] ?_
  exact tbX10_tell_J37 d y1 y2 y3 y4 0 I J rv sp rr w nw out e
set_option maxRecDepth 100000 in
set_option maxHeartbeats 4000000 in
theorem tX10_tell (d : Nat) (x1 : Int32) (x2 : Int32) (x3 : Int32) (x4 : Int32) (I : Nat → Nat → Int32) (J : Nat → Nat → Int64) (rv sp rr w nw : Nat) (hrv : rv = 3 ∨ rv = 19) (out : Int32 × (Nat → Nat → Int32)) (e : fX10_tell x1 x2 x3 x4 I rv = out) : mm_T none (d + 2) 143 (mm_ent 143 [(.ref 54), (.int x1), (.int x2), (.int x3), (.int x4)]) (107, I, J, mm_rf rv sp rr w nw) (fun v h => v = some (.int out.1) ∧ h = (107, out.2, J, mm_rf rv sp rr w nw)) := by
  rcases hrv with rfl | rfl
  · unfold fX10_tell at e
    refine mm_T.seg (f' := (2, [some (.ref 54), some (.int x1), some (.int x2), some (.int x3), some (.int x4), none], [(.int 1), (.int x2)])) (h' := (107, I, J, mm_rf 3 sp rr w nw)) 2 rfl ?_
    refine mm_T.br (c := x2 < 1) (a := ((36, [some (.ref 54), some (.int x1), some (.int x2), some (.int x3), some (.int x4), none], []), (107, I, J, mm_rf 3 sp rr w nw))) (b := ((5, [some (.ref 54), some (.int x1), some (.int x2), some (.int x3), some (.int x4), none], []), (107, I, J, mm_rf 3 sp rr w nw))) rfl (fun h2171 => ?_) (fun h2171 => ?_)
    · rw [if_pos h2171] at e
      refine mm_T.mask [true, true, true, true, true, false] ?_
      exact tbX10_tell_J36 d x1 x2 x3 x4 I J 3 sp rr w nw out e
    · rw [if_neg h2171] at e
      refine mm_T.seg (f' := (10, [some (.ref 54), some (.int x1), some (.int x2), some (.int x3), some (.int x4), none], [(.ref 18), (.int x2)])) (h' := (107, I, J, mm_rf 3 sp rr w nw)) 3 rfl ?_
      refine mm_T.seg (f' := (16, [some (.ref 54), some (.int x1), some (.int x2), some (.int x3), some (.int x4), none], [(.int (I 3 1)), (.int x2)])) (h' := (107, I, J, mm_rf 3 sp rr w nw)) 2 rfl ?_
      refine mm_T.br (c := (I 3 1) < x2) (a := ((36, [some (.ref 54), some (.int x1), some (.int x2), some (.int x3), some (.int x4), none], []), (107, I, J, mm_rf 3 sp rr w nw))) (b := ((19, [some (.ref 54), some (.int x1), some (.int x2), some (.int x3), some (.int x4), none], []), (107, I, J, mm_rf 3 sp rr w nw))) rfl (fun h2175 => ?_) (fun h2175 => ?_)
      · rw [if_pos h2175] at e
        refine mm_T.mask [true, true, true, true, true, false] ?_
        exact tbX10_tell_J36 d x1 x2 x3 x4 I J 3 sp rr w nw out e
      · rw [if_neg h2175] at e
        refine mm_T.seg (f' := (23, [some (.ref 54), some (.int x1), some (.int x2), some (.int x3), some (.int x4), none], [(.ref 18)])) (h' := (107, I, J, mm_rf 3 sp rr w nw)) 2 rfl ?_
        refine mm_T.seg (f' := (29, [some (.ref 54), some (.int x1), some (.int x2), some (.int x3), some (.int x4), none], [(.int (I 3 4))])) (h' := (107, I, J, mm_rf 3 sp rr w nw)) 2 rfl ?_
        refine mm_T.br (c := 0 < (I 3 4)) (a := ((32, [some (.ref 54), some (.int x1), some (.int x2), some (.int x3), some (.int x4), none], []), (107, I, J, mm_rf 3 sp rr w nw))) (b := ((36, [some (.ref 54), some (.int x1), some (.int x2), some (.int x3), some (.int x4), none], []), (107, I, J, mm_rf 3 sp rr w nw))) rfl (fun h2176 => ?_) (fun h2176 => ?_)
        · rw [if_pos h2176] at e
          refine mm_T.seg (f' := (37, [some (.ref 54), some (.int x1), some (.int x2), some (.int x3), some (.int x4), none], [(.int 1)])) (h' := (107, I, J, mm_rf 3 sp rr w nw)) 2 rfl ?_
          refine mm_T.mask [true, true, true, true, true, false] ?_
          exact tbX10_tell_J37 d x1 x2 x3 x4 1 I J 3 sp rr w nw out e
        · rw [if_neg h2176] at e
          refine mm_T.mask [true, true, true, true, true, false] ?_
          exact tbX10_tell_J36 d x1 x2 x3 x4 I J 3 sp rr w nw out e
  · unfold fX10_tell at e
    refine mm_T.seg (f' := (2, [some (.ref 54), some (.int x1), some (.int x2), some (.int x3), some (.int x4), none], [(.int 1), (.int x2)])) (h' := (107, I, J, mm_rf 19 sp rr w nw)) 2 rfl ?_
    refine mm_T.br (c := x2 < 1) (a := ((36, [some (.ref 54), some (.int x1), some (.int x2), some (.int x3), some (.int x4), none], []), (107, I, J, mm_rf 19 sp rr w nw))) (b := ((5, [some (.ref 54), some (.int x1), some (.int x2), some (.int x3), some (.int x4), none], []), (107, I, J, mm_rf 19 sp rr w nw))) rfl (fun h2171 => ?_) (fun h2171 => ?_)
    · rw [if_pos h2171] at e
      refine mm_T.mask [true, true, true, true, true, false] ?_
      exact tbX10_tell_J36 d x1 x2 x3 x4 I J 19 sp rr w nw out e
    · rw [if_neg h2171] at e
      refine mm_T.seg (f' := (10, [some (.ref 54), some (.int x1), some (.int x2), some (.int x3), some (.int x4), none], [(.ref 18), (.int x2)])) (h' := (107, I, J, mm_rf 19 sp rr w nw)) 3 rfl ?_
      refine mm_T.seg (f' := (16, [some (.ref 54), some (.int x1), some (.int x2), some (.int x3), some (.int x4), none], [(.int (I 19 1)), (.int x2)])) (h' := (107, I, J, mm_rf 19 sp rr w nw)) 2 rfl ?_
      refine mm_T.br (c := (I 19 1) < x2) (a := ((36, [some (.ref 54), some (.int x1), some (.int x2), some (.int x3), some (.int x4), none], []), (107, I, J, mm_rf 19 sp rr w nw))) (b := ((19, [some (.ref 54), some (.int x1), some (.int x2), some (.int x3), some (.int x4), none], []), (107, I, J, mm_rf 19 sp rr w nw))) rfl (fun h2175 => ?_) (fun h2175 => ?_)
      · rw [if_pos h2175] at e
        refine mm_T.mask [true, true, true, true, true, false] ?_
        exact tbX10_tell_J36 d x1 x2 x3 x4 I J 19 sp rr w nw out e
      · rw [if_neg h2175] at e
        refine mm_T.seg (f' := (23, [some (.ref 54), some (.int x1), some (.int x2), some (.int x3), some (.int x4), none], [(.ref 18)])) (h' := (107, I, J, mm_rf 19 sp rr w nw)) 2 rfl ?_
        refine mm_T.seg (f' := (29, [some (.ref 54), some (.int x1), some (.int x2), some (.int x3), some (.int x4), none], [(.int (I 19 4))])) (h' := (107, I, J, mm_rf 19 sp rr w nw)) 2 rfl ?_
        refine mm_T.br (c := 0 < (I 19 4)) (a := ((32, [some (.ref 54), some (.int x1), some (.int x2), some (.int x3), some (.int x4), none], []), (107, I, J, mm_rf 19 sp rr w nw))) (b := ((36, [some (.ref 54), some (.int x1), some (.int x2), some (.int x3), some (.int x4), none], []), (107, I, J, mm_rf 19 sp rr w nw))) rfl (fun h2176 => ?_) (fun h2176 => ?_)
        · rw [if_pos h2176] at e
          refine mm_T.seg (f' := (37, [some (.ref 54), some (.int x1), some (.int x2), some (.int x3), some (.int x4), none], [(.int 1)])) (h' := (107, I, J, mm_rf 19 sp rr w nw)) 2 rfl ?_
          refine mm_T.mask [true, true, true, true, true, false] ?_
          exact tbX10_tell_J37 d x1 x2 x3 x4 1 I J 19 sp rr w nw out e
        · rw [if_neg h2176] at e
          refine mm_T.mask [true, true, true, true, true, false] ?_
          exact tbX10_tell_J36 d x1 x2 x3 x4 I J 19 sp rr w nw out e
set_option maxRecDepth 100000 in
set_option maxHeartbeats 4000000 in
theorem tX10_takeBack (d : Nat) (x1 : Int32) (I : Nat → Nat → Int32) (J : Nat → Nat → Int64) (rv sp rr w nw : Nat) (out : Int32 × (Nat → Nat → Int32)) (e : fX10_takeBack x1 I = out) : mm_T none (d + 2) 144 (mm_ent 144 [(.ref 54), (.int x1)]) (107, I, J, mm_rf rv sp rr w nw) (fun v h => v = some (.int out.1) ∧ h = (107, out.2, J, mm_rf rv sp rr w nw)) := by
  unfold fX10_takeBack at e
  refine mm_T.seg (f' := (1, [some (.ref 54), some (.int x1)], [(.int x1)])) (h' := (107, I, J, mm_rf rv sp rr w nw)) 1 rfl ?_
  refine mm_T.br (c := x1 < 0) (a := ((22, [some (.ref 54), some (.int x1)], []), (107, I, J, mm_rf rv sp rr w nw))) (b := ((4, [some (.ref 54), some (.int x1)], []), (107, I, J, mm_rf rv sp rr w nw))) rfl (fun h2177 => ?_) (fun h2177 => ?_)
  · rw [if_pos h2177] at e
    refine mm_T.seg (f' := (23, [some (.ref 54), some (.int x1)], [(.int 0)])) (h' := (107, I, J, mm_rf rv sp rr w nw)) 1 rfl ?_
    cases e
    exact mm_T.ret rfl ⟨rfl, rfl⟩
  · rw [if_neg h2177] at e
    refine mm_T.seg (f' := (9, [some (.ref 54), some (.int x1)], [(.int (I 54 9)), (.int x1)])) (h' := (107, I, J, mm_rf rv sp rr w nw)) 3 rfl ?_
    refine mm_T.br (c := x1 < (I 54 9)) (a := ((12, [some (.ref 54), some (.int x1)], []), (107, I, J, mm_rf rv sp rr w nw))) (b := ((22, [some (.ref 54), some (.int x1)], []), (107, I, J, mm_rf rv sp rr w nw))) rfl (fun h2178 => ?_) (fun h2178 => ?_)
    · rw [if_pos h2178] at e
      refine mm_T.seg (f' := (15, [some (.ref 54), some (.int x1)], [(.int 5), (.int x1), (.ref 54)])) (h' := (107, I, J, mm_rf rv sp rr w nw)) 3 rfl ?_
      obtain ⟨g376, hg376⟩ : ∃ z, fX10_get x1 5 I = z := ⟨_, rfl⟩
      try rw [hg376] at e
      refine mm_T.call (t := 141) (as := [(.ref 54), (.int x1), (.int 5)]) (f' := (18, [some (.ref 54), some (.int x1)], [])) rfl (tX10_get (d + 0) x1 5 I J rv sp rr w nw g376 hg376) (fun v h hq => ?_)
      obtain ⟨rfl, rfl⟩ := hq
      refine mm_T.seg (f' := (19, [some (.ref 54), some (.int x1)], [(.int (-1)), (.int g376)])) (h' := (107, I, J, mm_rf rv sp rr w nw)) 1 rfl ?_
      refine mm_T.br (c := g376 = (-1)) (a := ((24, [some (.ref 54), some (.int x1)], []), (107, I, J, mm_rf rv sp rr w nw))) (b := ((22, [some (.ref 54), some (.int x1)], []), (107, I, J, mm_rf rv sp rr w nw))) rfl (fun h2179 => ?_) (fun h2179 => ?_)
      · rw [if_pos h2179] at e
        refine mm_T.seg (f' := (31, [some (.ref 54), some (.int x1)], [(.int (I 54 10)), (.int 5), (.int x1), (.ref 54)])) (h' := (107, I, J, mm_rf rv sp rr w nw)) 5 rfl ?_
        obtain ⟨g377, hg377⟩ : ∃ z, fX10_set x1 5 (I 54 10) I = z := ⟨_, rfl⟩
        try rw [hg377] at e
        refine mm_T.call (t := 142) (as := [(.ref 54), (.int x1), (.int 5), (.int (I 54 10))]) (f' := (34, [some (.ref 54), some (.int x1)], [])) rfl (tX10_set (d + 0) x1 5 (I 54 10) I J rv sp rr w nw g377 hg377) (fun v h hq => ?_)
        obtain ⟨rfl, rfl⟩ := hq
        refine mm_T.seg (f' := (35, [some (.ref 54), some (.int x1)], [(.int 1)])) (h' := (107, g377, J, mm_rf rv sp rr w nw)) 1 rfl ?_
        cases e
        exact mm_T.ret rfl ⟨rfl, rfl⟩
      · rw [if_neg h2179] at e
        refine mm_T.seg (f' := (23, [some (.ref 54), some (.int x1)], [(.int 0)])) (h' := (107, I, J, mm_rf rv sp rr w nw)) 1 rfl ?_
        cases e
        exact mm_T.ret rfl ⟨rfl, rfl⟩
    · rw [if_neg h2178] at e
      refine mm_T.seg (f' := (23, [some (.ref 54), some (.int x1)], [(.int 0)])) (h' := (107, I, J, mm_rf rv sp rr w nw)) 1 rfl ?_
      cases e
      exact mm_T.ret rfl ⟨rfl, rfl⟩
set_option maxRecDepth 100000 in
set_option maxHeartbeats 4000000 in
theorem tX10_goOn (d : Nat) (x1 : Int32) (I : Nat → Nat → Int32) (J : Nat → Nat → Int64) (rv sp rr w nw : Nat) (out : Int32 × (Nat → Nat → Int32)) (e : fX10_goOn x1 I = out) : mm_T none (d + 0) 145 (mm_ent 145 [(.ref 54), (.int x1)]) (107, I, J, mm_rf rv sp rr w nw) (fun v h => v = some (.int out.1) ∧ h = (107, out.2, J, mm_rf rv sp rr w nw)) := by
  unfold fX10_goOn at e
  refine mm_T.seg (f' := (1, [some (.ref 54), some (.int x1)], [(.int x1)])) (h' := (107, I, J, mm_rf rv sp rr w nw)) 1 rfl ?_
  refine mm_T.br (c := x1 < 0) (a := ((22, [some (.ref 54), some (.int x1)], []), (107, I, J, mm_rf rv sp rr w nw))) (b := ((4, [some (.ref 54), some (.int x1)], []), (107, I, J, mm_rf rv sp rr w nw))) rfl (fun h2180 => ?_) (fun h2180 => ?_)
  · rw [if_pos h2180] at e
    refine mm_T.seg (f' := (23, [some (.ref 54), some (.int x1)], [(.int (-1))])) (h' := (107, I, J, mm_rf rv sp rr w nw)) 1 rfl ?_
    cases e
    exact mm_T.ret rfl ⟨rfl, rfl⟩
  · rw [if_neg h2180] at e
    refine mm_T.seg (f' := (8, [some (.ref 54), some (.int x1)], [(.int 1000), (.int x1)])) (h' := (107, I, J, mm_rf rv sp rr w nw)) 2 rfl ?_
    refine mm_T.br (c := 1000 < x1) (a := ((22, [some (.ref 54), some (.int x1)], []), (107, I, J, mm_rf rv sp rr w nw))) (b := ((11, [some (.ref 54), some (.int x1)], []), (107, I, J, mm_rf rv sp rr w nw))) rfl (fun h2181 => ?_) (fun h2181 => ?_)
    · rw [if_pos h2181] at e
      refine mm_T.seg (f' := (23, [some (.ref 54), some (.int x1)], [(.int (-1))])) (h' := (107, I, J, mm_rf rv sp rr w nw)) 1 rfl ?_
      cases e
      exact mm_T.ret rfl ⟨rfl, rfl⟩
    · rw [if_neg h2181] at e
      refine mm_T.seg (f' := (19, [some (.ref 54), some (.int x1)], [(.int 100000), (.int ((I 54 10) + x1))])) (h' := (107, I, J, mm_rf rv sp rr w nw)) 5 rfl ?_
      refine mm_T.br (c := 100000 < ((I 54 10) + x1)) (a := ((22, [some (.ref 54), some (.int x1)], []), (107, I, J, mm_rf rv sp rr w nw))) (b := ((24, [some (.ref 54), some (.int x1)], []), (107, I, J, mm_rf rv sp rr w nw))) rfl (fun h2182 => ?_) (fun h2182 => ?_)
      · rw [if_pos h2182] at e
        refine mm_T.seg (f' := (23, [some (.ref 54), some (.int x1)], [(.int (-1))])) (h' := (107, I, J, mm_rf rv sp rr w nw)) 1 rfl ?_
        cases e
        exact mm_T.ret rfl ⟨rfl, rfl⟩
      · rw [if_neg h2182] at e
        refine mm_T.seg (f' := (38, [some (.ref 54), some (.int x1)], [(.int ((I 54 10) + x1))])) (h' := (107, (mm_up I 54 10 ((I 54 10) + x1)), J, mm_rf rv sp rr w nw)) 8 rfl ?_
        cases e
        exact mm_T.ret rfl ⟨rfl, rfl⟩
set_option maxRecDepth 100000 in
set_option maxHeartbeats 4000000 in
theorem tlX10_branch_L64 (d : Nat) (Q : Option Value → mm_H → Prop) : ∀ (n : Nat) (y1 : Int32) (y4 : Int32) (y5 : Int32) (y7 : Int32) (y8 : Int32) (I : Nat → Nat → Int32) (J : Nat → Nat → Int64) (rv sp rr w nw : Nat), (rv = 3 ∨ rv = 19) → ∀ (out : (Nat → Nat → Int32)), fX10_branch_L64 n y1 y4 y5 y7 y8 I rv = some out → mm_T none (d + 3) 147 (180, [none, none, none, none, none, none, none, none, none, none, none, none], []) (107, out, J, mm_rf rv sp rr w nw) Q → mm_T none (d + 3) 147 (64, [some (.ref 54), some (.int y1), none, some (.ref rv), some (.int y4), some (.int y5), none, some (.int y7), some (.int y8), none, none, none], []) (107, I, J, mm_rf rv sp rr w nw) Q := by
  intro n
  induction n with
  | zero =>
    intro y1 y4 y5 y7 y8 I J rv sp rr w nw hrv out e k
    rw [fX10_branch_L64] at e; cases e
  | succ n ih =>
    intro y1 y4 y5 y7 y8 I J rv sp rr w nw hrv out e k
    rcases hrv with rfl | rfl
    · rw [fX10_branch_L64] at e
      refine mm_T.seg (f' := (67, [some (.ref 54), some (.int y1), none, some (.ref 3), some (.int y4), some (.int y5), none, some (.int y7), some (.int y8), none, none, none], [(.int 1), (.int y8)])) (h' := (107, I, J, mm_rf 3 sp rr w nw)) 2 rfl ?_
      refine mm_T.br (c := 1 < y8) (a := ((180, [some (.ref 54), some (.int y1), none, some (.ref 3), some (.int y4), some (.int y5), none, some (.int y7), some (.int y8), none, none, none], []), (107, I, J, mm_rf 3 sp rr w nw))) (b := ((70, [some (.ref 54), some (.int y1), none, some (.ref 3), some (.int y4), some (.int y5), none, some (.int y7), some (.int y8), none, none, none], []), (107, I, J, mm_rf 3 sp rr w nw))) rfl (fun h2187 => ?_) (fun h2187 => ?_)
      · rw [if_pos h2187] at e
        cases e
        refine mm_T.mask [false, false, false, false, false, false, false, false, false, false, false, false] ?_
        exact k
      · rw [if_neg h2187] at e
        refine mm_T.seg (f' := (88, [some (.ref 54), some (.int y1), none, some (.ref 3), some (.int y4), some (.int y5), none, some (.int y7), some (.int y8), some (.int (((3 * y1) + 2) + y8)), none, none], [(.int 1), (.int y8), (.int y5), (.int y4), (.ref 3)])) (h' := (107, I, J, mm_rf 3 sp rr w nw)) 13 rfl ?_
        obtain ⟨g380, hg380⟩ : ∃ z, fX5_leadsTo y4 y5 y8 1 3 I = z := ⟨_, rfl⟩
        try rw [hg380] at e
        refine mm_T.call (t := 81) (as := [(.ref 3), (.int y4), (.int y5), (.int y8), (.int 1)]) (f' := (91, [some (.ref 54), some (.int y1), none, some (.ref 3), some (.int y4), some (.int y5), none, some (.int y7), some (.int y8), some (.int (((3 * y1) + 2) + y8)), none, none], [])) rfl (tX5_leadsTo (d + 1) y4 y5 y8 1 3 I J 3 sp rr w nw (Or.inl rfl) g380 hg380) (fun v h hq => ?_)
        obtain ⟨rfl, rfl⟩ := hq
        refine mm_T.seg (f' := (100, [some (.ref 54), some (.int y1), none, some (.ref 3), some (.int y4), some (.int y5), none, some (.int y7), some (.int y8), some (.int (((3 * y1) + 2) + y8)), some (.int g380), none], [(.int (y5 + 1)), (.int g380), (.ref 3)])) (h' := (107, I, J, mm_rf 3 sp rr w nw)) 6 rfl ?_
        obtain ⟨g381, hg381⟩ : ∃ z, fX5_ironAt g380 (y5 + 1) 3 I = z := ⟨_, rfl⟩
        try rw [hg381] at e
        refine mm_T.call (t := 69) (as := [(.ref 3), (.int g380), (.int (y5 + 1))]) (f' := (103, [some (.ref 54), some (.int y1), none, some (.ref 3), some (.int y4), some (.int y5), none, some (.int y7), some (.int y8), some (.int (((3 * y1) + 2) + y8)), some (.int g380), none], [])) rfl (tX5_ironAt (d + 1) g380 (y5 + 1) 3 I J 3 sp rr w nw (Or.inl rfl) g381 hg381) (fun v h hq => ?_)
        obtain ⟨rfl, rfl⟩ := hq
        refine mm_T.seg (f' := (109, [some (.ref 54), some (.int y1), none, some (.ref 3), some (.int y4), some (.int y5), none, some (.int y7), some (.int y8), some (.int (((3 * y1) + 2) + y8)), some (.int g380), some (.int g381)], [(.ref 56)])) (h' := (107, I, J, mm_rf 3 sp rr w nw)) 3 rfl ?_
        refine mm_T.seg (f' := (113, [some (.ref 54), some (.int y1), none, some (.ref 3), some (.int y4), some (.int y5), none, some (.int y7), some (.int y8), some (.int (((3 * y1) + 2) + y8)), some (.int g380), some (.int g381)], [(.int g381), (.int (((3 * y1) + 2) + y8)), (.ref 56)])) (h' := (107, I, J, mm_rf 3 sp rr w nw)) 2 rfl ?_
        refine mm_T.br (c := g381 = 0) (a := ((121, [some (.ref 54), some (.int y1), none, some (.ref 3), some (.int y4), some (.int y5), none, some (.int y7), some (.int y8), some (.int (((3 * y1) + 2) + y8)), some (.int g380), some (.int g381)], [(.int (((3 * y1) + 2) + y8)), (.ref 56)]), (107, I, J, mm_rf 3 sp rr w nw))) (b := ((116, [some (.ref 54), some (.int y1), none, some (.ref 3), some (.int y4), some (.int y5), none, some (.int y7), some (.int y8), some (.int (((3 * y1) + 2) + y8)), some (.int g380), some (.int g381)], [(.int (((3 * y1) + 2) + y8)), (.ref 56)]), (107, I, J, mm_rf 3 sp rr w nw))) rfl (fun h2188 => ?_) (fun h2188 => ?_)
        · rw [if_pos h2188] at e
          refine mm_T.seg (f' := (123, [some (.ref 54), some (.int y1), none, some (.ref 3), some (.int y4), some (.int y5), none, some (.int y7), some (.int y8), some (.int (((3 * y1) + 2) + y8)), some (.int g380), some (.int g381)], [(.int g380), (.int (((3 * y1) + 2) + y8)), (.ref 56)])) (h' := (107, I, J, mm_rf 3 sp rr w nw)) 1 rfl ?_
          refine mm_T.call (t := 205) (as := [(.ref 56), (.int (((3 * y1) + 2) + y8)), (.int g380)]) (f' := (126, [some (.ref 54), some (.int y1), none, some (.ref 3), some (.int y4), some (.int y5), none, some (.int y7), some (.int y8), some (.int (((3 * y1) + 2) + y8)), some (.int g380), some (.int g381)], [])) rfl (t_put _ 56 1093 (((3 * y1) + 2) + y8) g380 I J (mm_rf 3 sp rr w nw) rfl rfl) (fun v h hq => ?_)
          obtain ⟨rfl, rfl⟩ := hq
          refine mm_T.seg (f' := (130, [some (.ref 54), some (.int y1), none, some (.ref 3), some (.int y4), some (.int y5), none, some (.int y7), some (.int y8), some (.int (((3 * y1) + 2) + y8)), some (.int g380), some (.int g381)], [(.ref 57)])) (h' := (107, (mf_put I 56 1093 (((3 * y1) + 2) + y8) g380), J, mm_rf 3 sp rr w nw)) 2 rfl ?_
          refine mm_T.seg (f' := (134, [some (.ref 54), some (.int y1), none, some (.ref 3), some (.int y4), some (.int y5), none, some (.int y7), some (.int y8), some (.int (((3 * y1) + 2) + y8)), some (.int g380), some (.int g381)], [(.int g381), (.int (((3 * y1) + 2) + y8)), (.ref 57)])) (h' := (107, (mf_put I 56 1093 (((3 * y1) + 2) + y8) g380), J, mm_rf 3 sp rr w nw)) 2 rfl ?_
          refine mm_T.br (c := g381 = 0) (a := ((142, [some (.ref 54), some (.int y1), none, some (.ref 3), some (.int y4), some (.int y5), none, some (.int y7), some (.int y8), some (.int (((3 * y1) + 2) + y8)), some (.int g380), some (.int g381)], [(.int (((3 * y1) + 2) + y8)), (.ref 57)]), (107, (mf_put I 56 1093 (((3 * y1) + 2) + y8) g380), J, mm_rf 3 sp rr w nw))) (b := ((137, [some (.ref 54), some (.int y1), none, some (.ref 3), some (.int y4), some (.int y5), none, some (.int y7), some (.int y8), some (.int (((3 * y1) + 2) + y8)), some (.int g380), some (.int g381)], [(.int (((3 * y1) + 2) + y8)), (.ref 57)]), (107, (mf_put I 56 1093 (((3 * y1) + 2) + y8) g380), J, mm_rf 3 sp rr w nw))) rfl (fun h2189 => ?_) (fun h2189 => ?_)
          · rw [if_pos h2189] at e
            refine mm_T.seg (f' := (146, [some (.ref 54), some (.int y1), none, some (.ref 3), some (.int y4), some (.int y5), none, some (.int y7), some (.int y8), some (.int (((3 * y1) + 2) + y8)), some (.int g380), some (.int g381)], [(.int (y5 + 1)), (.int (((3 * y1) + 2) + y8)), (.ref 57)])) (h' := (107, (mf_put I 56 1093 (((3 * y1) + 2) + y8) g380), J, mm_rf 3 sp rr w nw)) 3 rfl ?_
            refine mm_T.call (t := 205) (as := [(.ref 57), (.int (((3 * y1) + 2) + y8)), (.int (y5 + 1))]) (f' := (149, [some (.ref 54), some (.int y1), none, some (.ref 3), some (.int y4), some (.int y5), none, some (.int y7), some (.int y8), some (.int (((3 * y1) + 2) + y8)), some (.int g380), some (.int g381)], [])) rfl (t_put _ 57 1093 (((3 * y1) + 2) + y8) (y5 + 1) (mf_put I 56 1093 (((3 * y1) + 2) + y8) g380) J (mm_rf 3 sp rr w nw) rfl rfl) (fun v h hq => ?_)
            obtain ⟨rfl, rfl⟩ := hq
            refine mm_T.seg (f' := (153, [some (.ref 54), some (.int y1), none, some (.ref 3), some (.int y4), some (.int y5), none, some (.int y7), some (.int y8), some (.int (((3 * y1) + 2) + y8)), some (.int g380), some (.int g381)], [(.ref 58)])) (h' := (107, (mf_put (mf_put I 56 1093 (((3 * y1) + 2) + y8) g380) 57 1093 (((3 * y1) + 2) + y8) (y5 + 1)), J, mm_rf 3 sp rr w nw)) 2 rfl ?_
            refine mm_T.seg (f' := (159, [some (.ref 54), some (.int y1), none, some (.ref 3), some (.int y4), some (.int y5), none, some (.int y7), some (.int y8), some (.int (((3 * y1) + 2) + y8)), some (.int g380), some (.int g381)], [(.int 0), (.ref 3), (.int y7), (.int (((3 * y1) + 2) + y8)), (.ref 58)])) (h' := (107, (mf_put (mf_put I 56 1093 (((3 * y1) + 2) + y8) g380) 57 1093 (((3 * y1) + 2) + y8) (y5 + 1)), J, mm_rf 3 sp rr w nw)) 4 rfl ?_
            obtain ⟨g382, hg382⟩ : ∃ z, fX5_bearsOf 0 3 (mf_put (mf_put I 56 1093 (((3 * y1) + 2) + y8) g380) 57 1093 (((3 * y1) + 2) + y8) (y5 + 1)) = z := ⟨_, rfl⟩
            try rw [hg382] at e
            refine mm_T.call (t := 79) (as := [(.ref 3), (.int 0)]) (f' := (162, [some (.ref 54), some (.int y1), none, some (.ref 3), some (.int y4), some (.int y5), none, some (.int y7), some (.int y8), some (.int (((3 * y1) + 2) + y8)), some (.int g380), some (.int g381)], [(.int y7), (.int (((3 * y1) + 2) + y8)), (.ref 58)])) rfl (tX5_bearsOf (d + 1) 0 3 (mf_put (mf_put I 56 1093 (((3 * y1) + 2) + y8) g380) 57 1093 (((3 * y1) + 2) + y8) (y5 + 1)) J 3 sp rr w nw (Or.inl rfl) g382 hg382) (fun v h hq => ?_)
            obtain ⟨rfl, rfl⟩ := hq
            refine mm_T.br (c := g382 < y7) (a := ((165, [some (.ref 54), some (.int y1), none, some (.ref 3), some (.int y4), some (.int y5), none, some (.int y7), some (.int y8), some (.int (((3 * y1) + 2) + y8)), some (.int g380), some (.int g381)], [(.int (((3 * y1) + 2) + y8)), (.ref 58)]), (107, (mf_put (mf_put I 56 1093 (((3 * y1) + 2) + y8) g380) 57 1093 (((3 * y1) + 2) + y8) (y5 + 1)), J, mm_rf 3 sp rr w nw))) (b := ((169, [some (.ref 54), some (.int y1), none, some (.ref 3), some (.int y4), some (.int y5), none, some (.int y7), some (.int y8), some (.int (((3 * y1) + 2) + y8)), some (.int g380), some (.int g381)], [(.int (((3 * y1) + 2) + y8)), (.ref 58)]), (107, (mf_put (mf_put I 56 1093 (((3 * y1) + 2) + y8) g380) 57 1093 (((3 * y1) + 2) + y8) (y5 + 1)), J, mm_rf 3 sp rr w nw))) rfl (fun h2190 => ?_) (fun h2190 => ?_)
            · rw [if_pos h2190] at e
              refine mm_T.seg (f' := (171, [some (.ref 54), some (.int y1), none, some (.ref 3), some (.int y4), some (.int y5), none, some (.int y7), some (.int y8), some (.int (((3 * y1) + 2) + y8)), some (.int g380), some (.int g381)], [(.int 0), (.int (((3 * y1) + 2) + y8)), (.ref 58)])) (h' := (107, (mf_put (mf_put I 56 1093 (((3 * y1) + 2) + y8) g380) 57 1093 (((3 * y1) + 2) + y8) (y5 + 1)), J, mm_rf 3 sp rr w nw)) 2 rfl ?_
              refine mm_T.call (t := 205) (as := [(.ref 58), (.int (((3 * y1) + 2) + y8)), (.int 0)]) (f' := (174, [some (.ref 54), some (.int y1), none, some (.ref 3), some (.int y4), some (.int y5), none, some (.int y7), some (.int y8), some (.int (((3 * y1) + 2) + y8)), some (.int g380), some (.int g381)], [])) rfl (t_put _ 58 1093 (((3 * y1) + 2) + y8) 0 (mf_put (mf_put I 56 1093 (((3 * y1) + 2) + y8) g380) 57 1093 (((3 * y1) + 2) + y8) (y5 + 1)) J (mm_rf 3 sp rr w nw) rfl rfl) (fun v h hq => ?_)
              obtain ⟨rfl, rfl⟩ := hq
              refine mm_T.seg (f' := (64, [some (.ref 54), some (.int y1), none, some (.ref 3), some (.int y4), some (.int y5), none, some (.int y7), some (.int (y8 + 1)), some (.int (((3 * y1) + 2) + y8)), some (.int g380), some (.int g381)], [])) (h' := (107, (mf_put (mf_put (mf_put I 56 1093 (((3 * y1) + 2) + y8) g380) 57 1093 (((3 * y1) + 2) + y8) (y5 + 1)) 58 1093 (((3 * y1) + 2) + y8) 0), J, mm_rf 3 sp rr w nw)) 2 rfl ?_
              refine mm_T.mask [true, true, false, true, true, true, false, true, true, false, false, false] ?_
              exact ih y1 y4 y5 y7 (y8 + 1) (mf_put (mf_put (mf_put I 56 1093 (((3 * y1) + 2) + y8) g380) 57 1093 (((3 * y1) + 2) + y8) (y5 + 1)) 58 1093 (((3 * y1) + 2) + y8) 0) J 3 sp rr w nw (Or.inl rfl) out e k
            · rw [if_neg h2190] at e
              refine mm_T.seg (f' := (171, [some (.ref 54), some (.int y1), none, some (.ref 3), some (.int y4), some (.int y5), none, some (.int y7), some (.int y8), some (.int (((3 * y1) + 2) + y8)), some (.int g380), some (.int g381)], [(.int y7), (.int (((3 * y1) + 2) + y8)), (.ref 58)])) (h' := (107, (mf_put (mf_put I 56 1093 (((3 * y1) + 2) + y8) g380) 57 1093 (((3 * y1) + 2) + y8) (y5 + 1)), J, mm_rf 3 sp rr w nw)) 1 rfl ?_
              refine mm_T.call (t := 205) (as := [(.ref 58), (.int (((3 * y1) + 2) + y8)), (.int y7)]) (f' := (174, [some (.ref 54), some (.int y1), none, some (.ref 3), some (.int y4), some (.int y5), none, some (.int y7), some (.int y8), some (.int (((3 * y1) + 2) + y8)), some (.int g380), some (.int g381)], [])) rfl (t_put _ 58 1093 (((3 * y1) + 2) + y8) y7 (mf_put (mf_put I 56 1093 (((3 * y1) + 2) + y8) g380) 57 1093 (((3 * y1) + 2) + y8) (y5 + 1)) J (mm_rf 3 sp rr w nw) rfl rfl) (fun v h hq => ?_)
              obtain ⟨rfl, rfl⟩ := hq
              refine mm_T.seg (f' := (64, [some (.ref 54), some (.int y1), none, some (.ref 3), some (.int y4), some (.int y5), none, some (.int y7), some (.int (y8 + 1)), some (.int (((3 * y1) + 2) + y8)), some (.int g380), some (.int g381)], [])) (h' := (107, (mf_put (mf_put (mf_put I 56 1093 (((3 * y1) + 2) + y8) g380) 57 1093 (((3 * y1) + 2) + y8) (y5 + 1)) 58 1093 (((3 * y1) + 2) + y8) y7), J, mm_rf 3 sp rr w nw)) 2 rfl ?_
              refine mm_T.mask [true, true, false, true, true, true, false, true, true, false, false, false] ?_
              exact ih y1 y4 y5 y7 (y8 + 1) (mf_put (mf_put (mf_put I 56 1093 (((3 * y1) + 2) + y8) g380) 57 1093 (((3 * y1) + 2) + y8) (y5 + 1)) 58 1093 (((3 * y1) + 2) + y8) y7) J 3 sp rr w nw (Or.inl rfl) out e k
          · rw [if_neg h2189] at e
            refine mm_T.seg (f' := (146, [some (.ref 54), some (.int y1), none, some (.ref 3), some (.int y4), some (.int y5), none, some (.int y7), some (.int y8), some (.int (((3 * y1) + 2) + y8)), some (.int g380), some (.int g381)], [(.int y5), (.int (((3 * y1) + 2) + y8)), (.ref 57)])) (h' := (107, (mf_put I 56 1093 (((3 * y1) + 2) + y8) g380), J, mm_rf 3 sp rr w nw)) 2 rfl ?_
            refine mm_T.call (t := 205) (as := [(.ref 57), (.int (((3 * y1) + 2) + y8)), (.int y5)]) (f' := (149, [some (.ref 54), some (.int y1), none, some (.ref 3), some (.int y4), some (.int y5), none, some (.int y7), some (.int y8), some (.int (((3 * y1) + 2) + y8)), some (.int g380), some (.int g381)], [])) rfl (t_put _ 57 1093 (((3 * y1) + 2) + y8) y5 (mf_put I 56 1093 (((3 * y1) + 2) + y8) g380) J (mm_rf 3 sp rr w nw) rfl rfl) (fun v h hq => ?_)
            obtain ⟨rfl, rfl⟩ := hq
            refine mm_T.seg (f' := (153, [some (.ref 54), some (.int y1), none, some (.ref 3), some (.int y4), some (.int y5), none, some (.int y7), some (.int y8), some (.int (((3 * y1) + 2) + y8)), some (.int g380), some (.int g381)], [(.ref 58)])) (h' := (107, (mf_put (mf_put I 56 1093 (((3 * y1) + 2) + y8) g380) 57 1093 (((3 * y1) + 2) + y8) y5), J, mm_rf 3 sp rr w nw)) 2 rfl ?_
            refine mm_T.seg (f' := (159, [some (.ref 54), some (.int y1), none, some (.ref 3), some (.int y4), some (.int y5), none, some (.int y7), some (.int y8), some (.int (((3 * y1) + 2) + y8)), some (.int g380), some (.int g381)], [(.int 0), (.ref 3), (.int y7), (.int (((3 * y1) + 2) + y8)), (.ref 58)])) (h' := (107, (mf_put (mf_put I 56 1093 (((3 * y1) + 2) + y8) g380) 57 1093 (((3 * y1) + 2) + y8) y5), J, mm_rf 3 sp rr w nw)) 4 rfl ?_
            obtain ⟨g383, hg383⟩ : ∃ z, fX5_bearsOf 0 3 (mf_put (mf_put I 56 1093 (((3 * y1) + 2) + y8) g380) 57 1093 (((3 * y1) + 2) + y8) y5) = z := ⟨_, rfl⟩
            try rw [hg383] at e
            refine mm_T.call (t := 79) (as := [(.ref 3), (.int 0)]) (f' := (162, [some (.ref 54), some (.int y1), none, some (.ref 3), some (.int y4), some (.int y5), none, some (.int y7), some (.int y8), some (.int (((3 * y1) + 2) + y8)), some (.int g380), some (.int g381)], [(.int y7), (.int (((3 * y1) + 2) + y8)), (.ref 58)])) rfl (tX5_bearsOf (d + 1) 0 3 (mf_put (mf_put I 56 1093 (((3 * y1) + 2) + y8) g380) 57 1093 (((3 * y1) + 2) + y8) y5) J 3 sp rr w nw (Or.inl rfl) g383 hg383) (fun v h hq => ?_)
            obtain ⟨rfl, rfl⟩ := hq
            refine mm_T.br (c := g383 < y7) (a := ((165, [some (.ref 54), some (.int y1), none, some (.ref 3), some (.int y4), some (.int y5), none, some (.int y7), some (.int y8), some (.int (((3 * y1) + 2) + y8)), some (.int g380), some (.int g381)], [(.int (((3 * y1) + 2) + y8)), (.ref 58)]), (107, (mf_put (mf_put I 56 1093 (((3 * y1) + 2) + y8) g380) 57 1093 (((3 * y1) + 2) + y8) y5), J, mm_rf 3 sp rr w nw))) (b := ((169, [some (.ref 54), some (.int y1), none, some (.ref 3), some (.int y4), some (.int y5), none, some (.int y7), some (.int y8), some (.int (((3 * y1) + 2) + y8)), some (.int g380), some (.int g381)], [(.int (((3 * y1) + 2) + y8)), (.ref 58)]), (107, (mf_put (mf_put I 56 1093 (((3 * y1) + 2) + y8) g380) 57 1093 (((3 * y1) + 2) + y8) y5), J, mm_rf 3 sp rr w nw))) rfl (fun h2191 => ?_) (fun h2191 => ?_)
            · rw [if_pos h2191] at e
              refine mm_T.seg (f' := (171, [some (.ref 54), some (.int y1), none, some (.ref 3), some (.int y4), some (.int y5), none, some (.int y7), some (.int y8), some (.int (((3 * y1) + 2) + y8)), some (.int g380), some (.int g381)], [(.int 0), (.int (((3 * y1) + 2) + y8)), (.ref 58)])) (h' := (107, (mf_put (mf_put I 56 1093 (((3 * y1) + 2) + y8) g380) 57 1093 (((3 * y1) + 2) + y8) y5), J, mm_rf 3 sp rr w nw)) 2 rfl ?_
              refine mm_T.call (t := 205) (as := [(.ref 58), (.int (((3 * y1) + 2) + y8)), (.int 0)]) (f' := (174, [some (.ref 54), some (.int y1), none, some (.ref 3), some (.int y4), some (.int y5), none, some (.int y7), some (.int y8), some (.int (((3 * y1) + 2) + y8)), some (.int g380), some (.int g381)], [])) rfl (t_put _ 58 1093 (((3 * y1) + 2) + y8) 0 (mf_put (mf_put I 56 1093 (((3 * y1) + 2) + y8) g380) 57 1093 (((3 * y1) + 2) + y8) y5) J (mm_rf 3 sp rr w nw) rfl rfl) (fun v h hq => ?_)
              obtain ⟨rfl, rfl⟩ := hq
              refine mm_T.seg (f' := (64, [some (.ref 54), some (.int y1), none, some (.ref 3), some (.int y4), some (.int y5), none, some (.int y7), some (.int (y8 + 1)), some (.int (((3 * y1) + 2) + y8)), some (.int g380), some (.int g381)], [])) (h' := (107, (mf_put (mf_put (mf_put I 56 1093 (((3 * y1) + 2) + y8) g380) 57 1093 (((3 * y1) + 2) + y8) y5) 58 1093 (((3 * y1) + 2) + y8) 0), J, mm_rf 3 sp rr w nw)) 2 rfl ?_
              refine mm_T.mask [true, true, false, true, true, true, false, true, true, false, false, false] ?_
              exact ih y1 y4 y5 y7 (y8 + 1) (mf_put (mf_put (mf_put I 56 1093 (((3 * y1) + 2) + y8) g380) 57 1093 (((3 * y1) + 2) + y8) y5) 58 1093 (((3 * y1) + 2) + y8) 0) J 3 sp rr w nw (Or.inl rfl) out e k
            · rw [if_neg h2191] at e
              refine mm_T.seg (f' := (171, [some (.ref 54), some (.int y1), none, some (.ref 3), some (.int y4), some (.int y5), none, some (.int y7), some (.int y8), some (.int (((3 * y1) + 2) + y8)), some (.int g380), some (.int g381)], [(.int y7), (.int (((3 * y1) + 2) + y8)), (.ref 58)])) (h' := (107, (mf_put (mf_put I 56 1093 (((3 * y1) + 2) + y8) g380) 57 1093 (((3 * y1) + 2) + y8) y5), J, mm_rf 3 sp rr w nw)) 1 rfl ?_
              refine mm_T.call (t := 205) (as := [(.ref 58), (.int (((3 * y1) + 2) + y8)), (.int y7)]) (f' := (174, [some (.ref 54), some (.int y1), none, some (.ref 3), some (.int y4), some (.int y5), none, some (.int y7), some (.int y8), some (.int (((3 * y1) + 2) + y8)), some (.int g380), some (.int g381)], [])) rfl (t_put _ 58 1093 (((3 * y1) + 2) + y8) y7 (mf_put (mf_put I 56 1093 (((3 * y1) + 2) + y8) g380) 57 1093 (((3 * y1) + 2) + y8) y5) J (mm_rf 3 sp rr w nw) rfl rfl) (fun v h hq => ?_)
              obtain ⟨rfl, rfl⟩ := hq
              refine mm_T.seg (f' := (64, [some (.ref 54), some (.int y1), none, some (.ref 3), some (.int y4), some (.int y5), none, some (.int y7), some (.int (y8 + 1)), some (.int (((3 * y1) + 2) + y8)), some (.int g380), some (.int g381)], [])) (h' := (107, (mf_put (mf_put (mf_put I 56 1093 (((3 * y1) + 2) + y8) g380) 57 1093 (((3 * y1) + 2) + y8) y5) 58 1093 (((3 * y1) + 2) + y8) y7), J, mm_rf 3 sp rr w nw)) 2 rfl ?_
              refine mm_T.mask [true, true, false, true, true, true, false, true, true, false, false, false] ?_
              exact ih y1 y4 y5 y7 (y8 + 1) (mf_put (mf_put (mf_put I 56 1093 (((3 * y1) + 2) + y8) g380) 57 1093 (((3 * y1) + 2) + y8) y5) 58 1093 (((3 * y1) + 2) + y8) y7) J 3 sp rr w nw (Or.inl rfl) out e k
        · rw [if_neg h2188] at e
          refine mm_T.seg (f' := (123, [some (.ref 54), some (.int y1), none, some (.ref 3), some (.int y4), some (.int y5), none, some (.int y7), some (.int y8), some (.int (((3 * y1) + 2) + y8)), some (.int g380), some (.int g381)], [(.int y4), (.int (((3 * y1) + 2) + y8)), (.ref 56)])) (h' := (107, I, J, mm_rf 3 sp rr w nw)) 2 rfl ?_
          refine mm_T.call (t := 205) (as := [(.ref 56), (.int (((3 * y1) + 2) + y8)), (.int y4)]) (f' := (126, [some (.ref 54), some (.int y1), none, some (.ref 3), some (.int y4), some (.int y5), none, some (.int y7), some (.int y8), some (.int (((3 * y1) + 2) + y8)), some (.int g380), some (.int g381)], [])) rfl (t_put _ 56 1093 (((3 * y1) + 2) + y8) y4 I J (mm_rf 3 sp rr w nw) rfl rfl) (fun v h hq => ?_)
          obtain ⟨rfl, rfl⟩ := hq
          refine mm_T.seg (f' := (130, [some (.ref 54), some (.int y1), none, some (.ref 3), some (.int y4), some (.int y5), none, some (.int y7), some (.int y8), some (.int (((3 * y1) + 2) + y8)), some (.int g380), some (.int g381)], [(.ref 57)])) (h' := (107, (mf_put I 56 1093 (((3 * y1) + 2) + y8) y4), J, mm_rf 3 sp rr w nw)) 2 rfl ?_
          refine mm_T.seg (f' := (134, [some (.ref 54), some (.int y1), none, some (.ref 3), some (.int y4), some (.int y5), none, some (.int y7), some (.int y8), some (.int (((3 * y1) + 2) + y8)), some (.int g380), some (.int g381)], [(.int g381), (.int (((3 * y1) + 2) + y8)), (.ref 57)])) (h' := (107, (mf_put I 56 1093 (((3 * y1) + 2) + y8) y4), J, mm_rf 3 sp rr w nw)) 2 rfl ?_
          refine mm_T.br (c := g381 = 0) (a := ((142, [some (.ref 54), some (.int y1), none, some (.ref 3), some (.int y4), some (.int y5), none, some (.int y7), some (.int y8), some (.int (((3 * y1) + 2) + y8)), some (.int g380), some (.int g381)], [(.int (((3 * y1) + 2) + y8)), (.ref 57)]), (107, (mf_put I 56 1093 (((3 * y1) + 2) + y8) y4), J, mm_rf 3 sp rr w nw))) (b := ((137, [some (.ref 54), some (.int y1), none, some (.ref 3), some (.int y4), some (.int y5), none, some (.int y7), some (.int y8), some (.int (((3 * y1) + 2) + y8)), some (.int g380), some (.int g381)], [(.int (((3 * y1) + 2) + y8)), (.ref 57)]), (107, (mf_put I 56 1093 (((3 * y1) + 2) + y8) y4), J, mm_rf 3 sp rr w nw))) rfl (fun h2192 => ?_) (fun h2192 => ?_)
          · rw [if_pos h2192] at e
            refine mm_T.seg (f' := (146, [some (.ref 54), some (.int y1), none, some (.ref 3), some (.int y4), some (.int y5), none, some (.int y7), some (.int y8), some (.int (((3 * y1) + 2) + y8)), some (.int g380), some (.int g381)], [(.int (y5 + 1)), (.int (((3 * y1) + 2) + y8)), (.ref 57)])) (h' := (107, (mf_put I 56 1093 (((3 * y1) + 2) + y8) y4), J, mm_rf 3 sp rr w nw)) 3 rfl ?_
            refine mm_T.call (t := 205) (as := [(.ref 57), (.int (((3 * y1) + 2) + y8)), (.int (y5 + 1))]) (f' := (149, [some (.ref 54), some (.int y1), none, some (.ref 3), some (.int y4), some (.int y5), none, some (.int y7), some (.int y8), some (.int (((3 * y1) + 2) + y8)), some (.int g380), some (.int g381)], [])) rfl (t_put _ 57 1093 (((3 * y1) + 2) + y8) (y5 + 1) (mf_put I 56 1093 (((3 * y1) + 2) + y8) y4) J (mm_rf 3 sp rr w nw) rfl rfl) (fun v h hq => ?_)
            obtain ⟨rfl, rfl⟩ := hq
            refine mm_T.seg (f' := (153, [some (.ref 54), some (.int y1), none, some (.ref 3), some (.int y4), some (.int y5), none, some (.int y7), some (.int y8), some (.int (((3 * y1) + 2) + y8)), some (.int g380), some (.int g381)], [(.ref 58)])) (h' := (107, (mf_put (mf_put I 56 1093 (((3 * y1) + 2) + y8) y4) 57 1093 (((3 * y1) + 2) + y8) (y5 + 1)), J, mm_rf 3 sp rr w nw)) 2 rfl ?_
            refine mm_T.seg (f' := (159, [some (.ref 54), some (.int y1), none, some (.ref 3), some (.int y4), some (.int y5), none, some (.int y7), some (.int y8), some (.int (((3 * y1) + 2) + y8)), some (.int g380), some (.int g381)], [(.int 0), (.ref 3), (.int y7), (.int (((3 * y1) + 2) + y8)), (.ref 58)])) (h' := (107, (mf_put (mf_put I 56 1093 (((3 * y1) + 2) + y8) y4) 57 1093 (((3 * y1) + 2) + y8) (y5 + 1)), J, mm_rf 3 sp rr w nw)) 4 rfl ?_
            obtain ⟨g384, hg384⟩ : ∃ z, fX5_bearsOf 0 3 (mf_put (mf_put I 56 1093 (((3 * y1) + 2) + y8) y4) 57 1093 (((3 * y1) + 2) + y8) (y5 + 1)) = z := ⟨_, rfl⟩
            try rw [hg384] at e
            refine mm_T.call (t := 79) (as := [(.ref 3), (.int 0)]) (f' := (162, [some (.ref 54), some (.int y1), none, some (.ref 3), some (.int y4), some (.int y5), none, some (.int y7), some (.int y8), some (.int (((3 * y1) + 2) + y8)), some (.int g380), some (.int g381)], [(.int y7), (.int (((3 * y1) + 2) + y8)), (.ref 58)])) rfl (tX5_bearsOf (d + 1) 0 3 (mf_put (mf_put I 56 1093 (((3 * y1) + 2) + y8) y4) 57 1093 (((3 * y1) + 2) + y8) (y5 + 1)) J 3 sp rr w nw (Or.inl rfl) g384 hg384) (fun v h hq => ?_)
            obtain ⟨rfl, rfl⟩ := hq
            refine mm_T.br (c := g384 < y7) (a := ((165, [some (.ref 54), some (.int y1), none, some (.ref 3), some (.int y4), some (.int y5), none, some (.int y7), some (.int y8), some (.int (((3 * y1) + 2) + y8)), some (.int g380), some (.int g381)], [(.int (((3 * y1) + 2) + y8)), (.ref 58)]), (107, (mf_put (mf_put I 56 1093 (((3 * y1) + 2) + y8) y4) 57 1093 (((3 * y1) + 2) + y8) (y5 + 1)), J, mm_rf 3 sp rr w nw))) (b := ((169, [some (.ref 54), some (.int y1), none, some (.ref 3), some (.int y4), some (.int y5), none, some (.int y7), some (.int y8), some (.int (((3 * y1) + 2) + y8)), some (.int g380), some (.int g381)], [(.int (((3 * y1) + 2) + y8)), (.ref 58)]), (107, (mf_put (mf_put I 56 1093 (((3 * y1) + 2) + y8) y4) 57 1093 (((3 * y1) + 2) + y8) (y5 + 1)), J, mm_rf 3 sp rr w nw))) rfl (fun h2193 => ?_) (fun h2193 => ?_)
            · rw [if_pos h2193] at e
              refine mm_T.seg (f' := (171, [some (.ref 54), some (.int y1), none, some (.ref 3), some (.int y4), some (.int y5), none, some (.int y7), some (.int y8), some (.int (((3 * y1) + 2) + y8)), some (.int g380), some (.int g381)], [(.int 0), (.int (((3 * y1) + 2) + y8)), (.ref 58)])) (h' := (107, (mf_put (mf_put I 56 1093 (((3 * y1) + 2) + y8) y4) 57 1093 (((3 * y1) + 2) + y8) (y5 + 1)), J, mm_rf 3 sp rr w nw)) 2 rfl ?_
              refine mm_T.call (t := 205) (as := [(.ref 58), (.int (((3 * y1) + 2) + y8)), (.int 0)]) (f' := (174, [some (.ref 54), some (.int y1), none, some (.ref 3), some (.int y4), some (.int y5), none, some (.int y7), some (.int y8), some (.int (((3 * y1) + 2) + y8)), some (.int g380), some (.int g381)], [])) rfl (t_put _ 58 1093 (((3 * y1) + 2) + y8) 0 (mf_put (mf_put I 56 1093 (((3 * y1) + 2) + y8) y4) 57 1093 (((3 * y1) + 2) + y8) (y5 + 1)) J (mm_rf 3 sp rr w nw) rfl rfl) (fun v h hq => ?_)
              obtain ⟨rfl, rfl⟩ := hq
              refine mm_T.seg (f' := (64, [some (.ref 54), some (.int y1), none, some (.ref 3), some (.int y4), some (.int y5), none, some (.int y7), some (.int (y8 + 1)), some (.int (((3 * y1) + 2) + y8)), some (.int g380), some (.int g381)], [])) (h' := (107, (mf_put (mf_put (mf_put I 56 1093 (((3 * y1) + 2) + y8) y4) 57 1093 (((3 * y1) + 2) + y8) (y5 + 1)) 58 1093 (((3 * y1) + 2) + y8) 0), J, mm_rf 3 sp rr w nw)) 2 rfl ?_
              refine mm_T.mask [true, true, false, true, true, true, false, true, true, false, false, false] ?_
              exact ih y1 y4 y5 y7 (y8 + 1) (mf_put (mf_put (mf_put I 56 1093 (((3 * y1) + 2) + y8) y4) 57 1093 (((3 * y1) + 2) + y8) (y5 + 1)) 58 1093 (((3 * y1) + 2) + y8) 0) J 3 sp rr w nw (Or.inl rfl) out e k
            · rw [if_neg h2193] at e
              refine mm_T.seg (f' := (171, [some (.ref 54), some (.int y1), none, some (.ref 3), some (.int y4), some (.int y5), none, some (.int y7), some (.int y8), some (.int (((3 * y1) + 2) + y8)), some (.int g380), some (.int g381)], [(.int y7), (.int (((3 * y1) + 2) + y8)), (.ref 58)])) (h' := (107, (mf_put (mf_put I 56 1093 (((3 * y1) + 2) + y8) y4) 57 1093 (((3 * y1) + 2) + y8) (y5 + 1)), J, mm_rf 3 sp rr w nw)) 1 rfl ?_
              refine mm_T.call (t := 205) (as := [(.ref 58), (.int (((3 * y1) + 2) + y8)), (.int y7)]) (f' := (174, [some (.ref 54), some (.int y1), none, some (.ref 3), some (.int y4), some (.int y5), none, some (.int y7), some (.int y8), some (.int (((3 * y1) + 2) + y8)), some (.int g380), some (.int g381)], [])) rfl (t_put _ 58 1093 (((3 * y1) + 2) + y8) y7 (mf_put (mf_put I 56 1093 (((3 * y1) + 2) + y8) y4) 57 1093 (((3 * y1) + 2) + y8) (y5 + 1)) J (mm_rf 3 sp rr w nw) rfl rfl) (fun v h hq => ?_)
              obtain ⟨rfl, rfl⟩ := hq
              refine mm_T.seg (f' := (64, [some (.ref 54), some (.int y1), none, some (.ref 3), some (.int y4), some (.int y5), none, some (.int y7), some (.int (y8 + 1)), some (.int (((3 * y1) + 2) + y8)), some (.int g380), some (.int g381)], [])) (h' := (107, (mf_put (mf_put (mf_put I 56 1093 (((3 * y1) + 2) + y8) y4) 57 1093 (((3 * y1) + 2) + y8) (y5 + 1)) 58 1093 (((3 * y1) + 2) + y8) y7), J, mm_rf 3 sp rr w nw)) 2 rfl ?_
              refine mm_T.mask [true, true, false, true, true, true, false, true, true, false, false, false] ?_
              exact ih y1 y4 y5 y7 (y8 + 1) (mf_put (mf_put (mf_put I 56 1093 (((3 * y1) + 2) + y8) y4) 57 1093 (((3 * y1) + 2) + y8) (y5 + 1)) 58 1093 (((3 * y1) + 2) + y8) y7) J 3 sp rr w nw (Or.inl rfl) out e k
          · rw [if_neg h2192] at e
            refine mm_T.seg (f' := (146, [some (.ref 54), some (.int y1), none, some (.ref 3), some (.int y4), some (.int y5), none, some (.int y7), some (.int y8), some (.int (((3 * y1) + 2) + y8)), some (.int g380), some (.int g381)], [(.int y5), (.int (((3 * y1) + 2) + y8)), (.ref 57)])) (h' := (107, (mf_put I 56 1093 (((3 * y1) + 2) + y8) y4), J, mm_rf 3 sp rr w nw)) 2 rfl ?_
            refine mm_T.call (t := 205) (as := [(.ref 57), (.int (((3 * y1) + 2) + y8)), (.int y5)]) (f' := (149, [some (.ref 54), some (.int y1), none, some (.ref 3), some (.int y4), some (.int y5), none, some (.int y7), some (.int y8), some (.int (((3 * y1) + 2) + y8)), some (.int g380), some (.int g381)], [])) rfl (t_put _ 57 1093 (((3 * y1) + 2) + y8) y5 (mf_put I 56 1093 (((3 * y1) + 2) + y8) y4) J (mm_rf 3 sp rr w nw) rfl rfl) (fun v h hq => ?_)
            obtain ⟨rfl, rfl⟩ := hq
            refine mm_T.seg (f' := (153, [some (.ref 54), some (.int y1), none, some (.ref 3), some (.int y4), some (.int y5), none, some (.int y7), some (.int y8), some (.int (((3 * y1) + 2) + y8)), some (.int g380), some (.int g381)], [(.ref 58)])) (h' := (107, (mf_put (mf_put I 56 1093 (((3 * y1) + 2) + y8) y4) 57 1093 (((3 * y1) + 2) + y8) y5), J, mm_rf 3 sp rr w nw)) 2 rfl ?_
            refine mm_T.seg (f' := (159, [some (.ref 54), some (.int y1), none, some (.ref 3), some (.int y4), some (.int y5), none, some (.int y7), some (.int y8), some (.int (((3 * y1) + 2) + y8)), some (.int g380), some (.int g381)], [(.int 0), (.ref 3), (.int y7), (.int (((3 * y1) + 2) + y8)), (.ref 58)])) (h' := (107, (mf_put (mf_put I 56 1093 (((3 * y1) + 2) + y8) y4) 57 1093 (((3 * y1) + 2) + y8) y5), J, mm_rf 3 sp rr w nw)) 4 rfl ?_
            obtain ⟨g385, hg385⟩ : ∃ z, fX5_bearsOf 0 3 (mf_put (mf_put I 56 1093 (((3 * y1) + 2) + y8) y4) 57 1093 (((3 * y1) + 2) + y8) y5) = z := ⟨_, rfl⟩
            try rw [hg385] at e
            refine mm_T.call (t := 79) (as := [(.ref 3), (.int 0)]) (f' := (162, [some (.ref 54), some (.int y1), none, some (.ref 3), some (.int y4), some (.int y5), none, some (.int y7), some (.int y8), some (.int (((3 * y1) + 2) + y8)), some (.int g380), some (.int g381)], [(.int y7), (.int (((3 * y1) + 2) + y8)), (.ref 58)])) rfl (tX5_bearsOf (d + 1) 0 3 (mf_put (mf_put I 56 1093 (((3 * y1) + 2) + y8) y4) 57 1093 (((3 * y1) + 2) + y8) y5) J 3 sp rr w nw (Or.inl rfl) g385 hg385) (fun v h hq => ?_)
            obtain ⟨rfl, rfl⟩ := hq
            refine mm_T.br (c := g385 < y7) (a := ((165, [some (.ref 54), some (.int y1), none, some (.ref 3), some (.int y4), some (.int y5), none, some (.int y7), some (.int y8), some (.int (((3 * y1) + 2) + y8)), some (.int g380), some (.int g381)], [(.int (((3 * y1) + 2) + y8)), (.ref 58)]), (107, (mf_put (mf_put I 56 1093 (((3 * y1) + 2) + y8) y4) 57 1093 (((3 * y1) + 2) + y8) y5), J, mm_rf 3 sp rr w nw))) (b := ((169, [some (.ref 54), some (.int y1), none, some (.ref 3), some (.int y4), some (.int y5), none, some (.int y7), some (.int y8), some (.int (((3 * y1) + 2) + y8)), some (.int g380), some (.int g381)], [(.int (((3 * y1) + 2) + y8)), (.ref 58)]), (107, (mf_put (mf_put I 56 1093 (((3 * y1) + 2) + y8) y4) 57 1093 (((3 * y1) + 2) + y8) y5), J, mm_rf 3 sp rr w nw))) rfl (fun h2194 => ?_) (fun h2194 => ?_)
            · rw [if_pos h2194] at e
              refine mm_T.seg (f' := (171, [some (.ref 54), some (.int y1), none, some (.ref 3), some (.int y4), some (.int y5), none, some (.int y7), some (.int y8), some (.int (((3 * y1) + 2) + y8)), some (.int g380), some (.int g381)], [(.int 0), (.int (((3 * y1) + 2) + y8)), (.ref 58)])) (h' := (107, (mf_put (mf_put I 56 1093 (((3 * y1) + 2) + y8) y4) 57 1093 (((3 * y1) + 2) + y8) y5), J, mm_rf 3 sp rr w nw)) 2 rfl ?_
              refine mm_T.call (t := 205) (as := [(.ref 58), (.int (((3 * y1) + 2) + y8)), (.int 0)]) (f' := (174, [some (.ref 54), some (.int y1), none, some (.ref 3), some (.int y4), some (.int y5), none, some (.int y7), some (.int y8), some (.int (((3 * y1) + 2) + y8)), some (.int g380), some (.int g381)], [])) rfl (t_put _ 58 1093 (((3 * y1) + 2) + y8) 0 (mf_put (mf_put I 56 1093 (((3 * y1) + 2) + y8) y4) 57 1093 (((3 * y1) + 2) + y8) y5) J (mm_rf 3 sp rr w nw) rfl rfl) (fun v h hq => ?_)
              obtain ⟨rfl, rfl⟩ := hq
              refine mm_T.seg (f' := (64, [some (.ref 54), some (.int y1), none, some (.ref 3), some (.int y4), some (.int y5), none, some (.int y7), some (.int (y8 + 1)), some (.int (((3 * y1) + 2) + y8)), some (.int g380), some (.int g381)], [])) (h' := (107, (mf_put (mf_put (mf_put I 56 1093 (((3 * y1) + 2) + y8) y4) 57 1093 (((3 * y1) + 2) + y8) y5) 58 1093 (((3 * y1) + 2) + y8) 0), J, mm_rf 3 sp rr w nw)) 2 rfl ?_
              refine mm_T.mask [true, true, false, true, true, true, false, true, true, false, false, false] ?_
              exact ih y1 y4 y5 y7 (y8 + 1) (mf_put (mf_put (mf_put I 56 1093 (((3 * y1) + 2) + y8) y4) 57 1093 (((3 * y1) + 2) + y8) y5) 58 1093 (((3 * y1) + 2) + y8) 0) J 3 sp rr w nw (Or.inl rfl) out e k
            · rw [if_neg h2194] at e
              refine mm_T.seg (f' := (171, [some (.ref 54), some (.int y1), none, some (.ref 3), some (.int y4), some (.int y5), none, some (.int y7), some (.int y8), some (.int (((3 * y1) + 2) + y8)), some (.int g380), some (.int g381)], [(.int y7), (.int (((3 * y1) + 2) + y8)), (.ref 58)])) (h' := (107, (mf_put (mf_put I 56 1093 (((3 * y1) + 2) + y8) y4) 57 1093 (((3 * y1) + 2) + y8) y5), J, mm_rf 3 sp rr w nw)) 1 rfl ?_
              refine mm_T.call (t := 205) (as := [(.ref 58), (.int (((3 * y1) + 2) + y8)), (.int y7)]) (f' := (174, [some (.ref 54), some (.int y1), none, some (.ref 3), some (.int y4), some (.int y5), none, some (.int y7), some (.int y8), some (.int (((3 * y1) + 2) + y8)), some (.int g380), some (.int g381)], [])) rfl (t_put _ 58 1093 (((3 * y1) + 2) + y8) y7 (mf_put (mf_put I 56 1093 (((3 * y1) + 2) + y8) y4) 57 1093 (((3 * y1) + 2) + y8) y5) J (mm_rf 3 sp rr w nw) rfl rfl) (fun v h hq => ?_)
              obtain ⟨rfl, rfl⟩ := hq
              refine mm_T.seg (f' := (64, [some (.ref 54), some (.int y1), none, some (.ref 3), some (.int y4), some (.int y5), none, some (.int y7), some (.int (y8 + 1)), some (.int (((3 * y1) + 2) + y8)), some (.int g380), some (.int g381)], [])) (h' := (107, (mf_put (mf_put (mf_put I 56 1093 (((3 * y1) + 2) + y8) y4) 57 1093 (((3 * y1) + 2) + y8) y5) 58 1093 (((3 * y1) + 2) + y8) y7), J, mm_rf 3 sp rr w nw)) 2 rfl ?_
              refine mm_T.mask [true, true, false, true, true, true, false, true, true, false, false, false] ?_
              exact ih y1 y4 y5 y7 (y8 + 1) (mf_put (mf_put (mf_put I 56 1093 (((3 * y1) + 2) + y8) y4) 57 1093 (((3 * y1) + 2) + y8) y5) 58 1093 (((3 * y1) + 2) + y8) y7) J 3 sp rr w nw (Or.inl rfl) out e k
    · rw [fX10_branch_L64] at e
      refine mm_T.seg (f' := (67, [some (.ref 54), some (.int y1), none, some (.ref 19), some (.int y4), some (.int y5), none, some (.int y7), some (.int y8), none, none, none], [(.int 1), (.int y8)])) (h' := (107, I, J, mm_rf 19 sp rr w nw)) 2 rfl ?_
      refine mm_T.br (c := 1 < y8) (a := ((180, [some (.ref 54), some (.int y1), none, some (.ref 19), some (.int y4), some (.int y5), none, some (.int y7), some (.int y8), none, none, none], []), (107, I, J, mm_rf 19 sp rr w nw))) (b := ((70, [some (.ref 54), some (.int y1), none, some (.ref 19), some (.int y4), some (.int y5), none, some (.int y7), some (.int y8), none, none, none], []), (107, I, J, mm_rf 19 sp rr w nw))) rfl (fun h2187 => ?_) (fun h2187 => ?_)
      · rw [if_pos h2187] at e
        cases e
        refine mm_T.mask [false, false, false, false, false, false, false, false, false, false, false, false] ?_
        exact k
      · rw [if_neg h2187] at e
        refine mm_T.seg (f' := (88, [some (.ref 54), some (.int y1), none, some (.ref 19), some (.int y4), some (.int y5), none, some (.int y7), some (.int y8), some (.int (((3 * y1) + 2) + y8)), none, none], [(.int 1), (.int y8), (.int y5), (.int y4), (.ref 19)])) (h' := (107, I, J, mm_rf 19 sp rr w nw)) 13 rfl ?_
        obtain ⟨g380, hg380⟩ : ∃ z, fX5_leadsTo y4 y5 y8 1 19 I = z := ⟨_, rfl⟩
        try rw [hg380] at e
        refine mm_T.call (t := 81) (as := [(.ref 19), (.int y4), (.int y5), (.int y8), (.int 1)]) (f' := (91, [some (.ref 54), some (.int y1), none, some (.ref 19), some (.int y4), some (.int y5), none, some (.int y7), some (.int y8), some (.int (((3 * y1) + 2) + y8)), none, none], [])) rfl (tX5_leadsTo (d + 1) y4 y5 y8 1 19 I J 19 sp rr w nw (Or.inr rfl) g380 hg380) (fun v h hq => ?_)
        obtain ⟨rfl, rfl⟩ := hq
        refine mm_T.seg (f' := (100, [some (.ref 54), some (.int y1), none, some (.ref 19), some (.int y4), some (.int y5), none, some (.int y7), some (.int y8), some (.int (((3 * y1) + 2) + y8)), some (.int g380), none], [(.int (y5 + 1)), (.int g380), (.ref 19)])) (h' := (107, I, J, mm_rf 19 sp rr w nw)) 6 rfl ?_
        obtain ⟨g381, hg381⟩ : ∃ z, fX5_ironAt g380 (y5 + 1) 19 I = z := ⟨_, rfl⟩
        try rw [hg381] at e
        refine mm_T.call (t := 69) (as := [(.ref 19), (.int g380), (.int (y5 + 1))]) (f' := (103, [some (.ref 54), some (.int y1), none, some (.ref 19), some (.int y4), some (.int y5), none, some (.int y7), some (.int y8), some (.int (((3 * y1) + 2) + y8)), some (.int g380), none], [])) rfl (tX5_ironAt (d + 1) g380 (y5 + 1) 19 I J 19 sp rr w nw (Or.inr rfl) g381 hg381) (fun v h hq => ?_)
        obtain ⟨rfl, rfl⟩ := hq
        refine mm_T.seg (f' := (109, [some (.ref 54), some (.int y1), none, some (.ref 19), some (.int y4), some (.int y5), none, some (.int y7), some (.int y8), some (.int (((3 * y1) + 2) + y8)), some (.int g380), some (.int g381)], [(.ref 56)])) (h' := (107, I, J, mm_rf 19 sp rr w nw)) 3 rfl ?_
        refine mm_T.seg (f' := (113, [some (.ref 54), some (.int y1), none, some (.ref 19), some (.int y4), some (.int y5), none, some (.int y7), some (.int y8), some (.int (((3 * y1) + 2) + y8)), some (.int g380), some (.int g381)], [(.int g381), (.int (((3 * y1) + 2) + y8)), (.ref 56)])) (h' := (107, I, J, mm_rf 19 sp rr w nw)) 2 rfl ?_
        refine mm_T.br (c := g381 = 0) (a := ((121, [some (.ref 54), some (.int y1), none, some (.ref 19), some (.int y4), some (.int y5), none, some (.int y7), some (.int y8), some (.int (((3 * y1) + 2) + y8)), some (.int g380), some (.int g381)], [(.int (((3 * y1) + 2) + y8)), (.ref 56)]), (107, I, J, mm_rf 19 sp rr w nw))) (b := ((116, [some (.ref 54), some (.int y1), none, some (.ref 19), some (.int y4), some (.int y5), none, some (.int y7), some (.int y8), some (.int (((3 * y1) + 2) + y8)), some (.int g380), some (.int g381)], [(.int (((3 * y1) + 2) + y8)), (.ref 56)]), (107, I, J, mm_rf 19 sp rr w nw))) rfl (fun h2188 => ?_) (fun h2188 => ?_)
        · rw [if_pos h2188] at e
          refine mm_T.seg (f' := (123, [some (.ref 54), some (.int y1), none, some (.ref 19), some (.int y4), some (.int y5), none, some (.int y7), some (.int y8), some (.int (((3 * y1) + 2) + y8)), some (.int g380), some (.int g381)], [(.int g380), (.int (((3 * y1) + 2) + y8)), (.ref 56)])) (h' := (107, I, J, mm_rf 19 sp rr w nw)) 1 rfl ?_
          refine mm_T.call (t := 205) (as := [(.ref 56), (.int (((3 * y1) + 2) + y8)), (.int g380)]) (f' := (126, [some (.ref 54), some (.int y1), none, some (.ref 19), some (.int y4), some (.int y5), none, some (.int y7), some (.int y8), some (.int (((3 * y1) + 2) + y8)), some (.int g380), some (.int g381)], [])) rfl (t_put _ 56 1093 (((3 * y1) + 2) + y8) g380 I J (mm_rf 19 sp rr w nw) rfl rfl) (fun v h hq => ?_)
          obtain ⟨rfl, rfl⟩ := hq
          refine mm_T.seg (f' := (130, [some (.ref 54), some (.int y1), none, some (.ref 19), some (.int y4), some (.int y5), none, some (.int y7), some (.int y8), some (.int (((3 * y1) + 2) + y8)), some (.int g380), some (.int g381)], [(.ref 57)])) (h' := (107, (mf_put I 56 1093 (((3 * y1) + 2) + y8) g380), J, mm_rf 19 sp rr w nw)) 2 rfl ?_
          refine mm_T.seg (f' := (134, [some (.ref 54), some (.int y1), none, some (.ref 19), some (.int y4), some (.int y5), none, some (.int y7), some (.int y8), some (.int (((3 * y1) + 2) + y8)), some (.int g380), some (.int g381)], [(.int g381), (.int (((3 * y1) + 2) + y8)), (.ref 57)])) (h' := (107, (mf_put I 56 1093 (((3 * y1) + 2) + y8) g380), J, mm_rf 19 sp rr w nw)) 2 rfl ?_
          refine mm_T.br (c := g381 = 0) (a := ((142, [some (.ref 54), some (.int y1), none, some (.ref 19), some (.int y4), some (.int y5), none, some (.int y7), some (.int y8), some (.int (((3 * y1) + 2) + y8)), some (.int g380), some (.int g381)], [(.int (((3 * y1) + 2) + y8)), (.ref 57)]), (107, (mf_put I 56 1093 (((3 * y1) + 2) + y8) g380), J, mm_rf 19 sp rr w nw))) (b := ((137, [some (.ref 54), some (.int y1), none, some (.ref 19), some (.int y4), some (.int y5), none, some (.int y7), some (.int y8), some (.int (((3 * y1) + 2) + y8)), some (.int g380), some (.int g381)], [(.int (((3 * y1) + 2) + y8)), (.ref 57)]), (107, (mf_put I 56 1093 (((3 * y1) + 2) + y8) g380), J, mm_rf 19 sp rr w nw))) rfl (fun h2189 => ?_) (fun h2189 => ?_)
          · rw [if_pos h2189] at e
            refine mm_T.seg (f' := (146, [some (.ref 54), some (.int y1), none, some (.ref 19), some (.int y4), some (.int y5), none, some (.int y7), some (.int y8), some (.int (((3 * y1) + 2) + y8)), some (.int g380), some (.int g381)], [(.int (y5 + 1)), (.int (((3 * y1) + 2) + y8)), (.ref 57)])) (h' := (107, (mf_put I 56 1093 (((3 * y1) + 2) + y8) g380), J, mm_rf 19 sp rr w nw)) 3 rfl ?_
            refine mm_T.call (t := 205) (as := [(.ref 57), (.int (((3 * y1) + 2) + y8)), (.int (y5 + 1))]) (f' := (149, [some (.ref 54), some (.int y1), none, some (.ref 19), some (.int y4), some (.int y5), none, some (.int y7), some (.int y8), some (.int (((3 * y1) + 2) + y8)), some (.int g380), some (.int g381)], [])) rfl (t_put _ 57 1093 (((3 * y1) + 2) + y8) (y5 + 1) (mf_put I 56 1093 (((3 * y1) + 2) + y8) g380) J (mm_rf 19 sp rr w nw) rfl rfl) (fun v h hq => ?_)
            obtain ⟨rfl, rfl⟩ := hq
            refine mm_T.seg (f' := (153, [some (.ref 54), some (.int y1), none, some (.ref 19), some (.int y4), some (.int y5), none, some (.int y7), some (.int y8), some (.int (((3 * y1) + 2) + y8)), some (.int g380), some (.int g381)], [(.ref 58)])) (h' := (107, (mf_put (mf_put I 56 1093 (((3 * y1) + 2) + y8) g380) 57 1093 (((3 * y1) + 2) + y8) (y5 + 1)), J, mm_rf 19 sp rr w nw)) 2 rfl ?_
            refine mm_T.seg (f' := (159, [some (.ref 54), some (.int y1), none, some (.ref 19), some (.int y4), some (.int y5), none, some (.int y7), some (.int y8), some (.int (((3 * y1) + 2) + y8)), some (.int g380), some (.int g381)], [(.int 0), (.ref 19), (.int y7), (.int (((3 * y1) + 2) + y8)), (.ref 58)])) (h' := (107, (mf_put (mf_put I 56 1093 (((3 * y1) + 2) + y8) g380) 57 1093 (((3 * y1) + 2) + y8) (y5 + 1)), J, mm_rf 19 sp rr w nw)) 4 rfl ?_
            obtain ⟨g382, hg382⟩ : ∃ z, fX5_bearsOf 0 19 (mf_put (mf_put I 56 1093 (((3 * y1) + 2) + y8) g380) 57 1093 (((3 * y1) + 2) + y8) (y5 + 1)) = z := ⟨_, rfl⟩
            try rw [hg382] at e
            refine mm_T.call (t := 79) (as := [(.ref 19), (.int 0)]) (f' := (162, [some (.ref 54), some (.int y1), none, some (.ref 19), some (.int y4), some (.int y5), none, some (.int y7), some (.int y8), some (.int (((3 * y1) + 2) + y8)), some (.int g380), some (.int g381)], [(.int y7), (.int (((3 * y1) + 2) + y8)), (.ref 58)])) rfl (tX5_bearsOf (d + 1) 0 19 (mf_put (mf_put I 56 1093 (((3 * y1) + 2) + y8) g380) 57 1093 (((3 * y1) + 2) + y8) (y5 + 1)) J 19 sp rr w nw (Or.inr rfl) g382 hg382) (fun v h hq => ?_)
            obtain ⟨rfl, rfl⟩ := hq
            refine mm_T.br (c := g382 < y7) (a := ((165, [some (.ref 54), some (.int y1), none, some (.ref 19), some (.int y4), some (.int y5), none, some (.int y7), some (.int y8), some (.int (((3 * y1) + 2) + y8)), some (.int g380), some (.int g381)], [(.int (((3 * y1) + 2) + y8)), (.ref 58)]), (107, (mf_put (mf_put I 56 1093 (((3 * y1) + 2) + y8) g380) 57 1093 (((3 * y1) + 2) + y8) (y5 + 1)), J, mm_rf 19 sp rr w nw))) (b := ((169, [some (.ref 54), some (.int y1), none, some (.ref 19), some (.int y4), some (.int y5), none, some (.int y7), some (.int y8), some (.int (((3 * y1) + 2) + y8)), some (.int g380), some (.int g381)], [(.int (((3 * y1) + 2) + y8)), (.ref 58)]), (107, (mf_put (mf_put I 56 1093 (((3 * y1) + 2) + y8) g380) 57 1093 (((3 * y1) + 2) + y8) (y5 + 1)), J, mm_rf 19 sp rr w nw))) rfl (fun h2190 => ?_) (fun h2190 => ?_)
            · rw [if_pos h2190] at e
              refine mm_T.seg (f' := (171, [some (.ref 54), some (.int y1), none, some (.ref 19), some (.int y4), some (.int y5), none, some (.int y7), some (.int y8), some (.int (((3 * y1) + 2) + y8)), some (.int g380), some (.int g381)], [(.int 0), (.int (((3 * y1) + 2) + y8)), (.ref 58)])) (h' := (107, (mf_put (mf_put I 56 1093 (((3 * y1) + 2) + y8) g380) 57 1093 (((3 * y1) + 2) + y8) (y5 + 1)), J, mm_rf 19 sp rr w nw)) 2 rfl ?_
              refine mm_T.call (t := 205) (as := [(.ref 58), (.int (((3 * y1) + 2) + y8)), (.int 0)]) (f' := (174, [some (.ref 54), some (.int y1), none, some (.ref 19), some (.int y4), some (.int y5), none, some (.int y7), some (.int y8), some (.int (((3 * y1) + 2) + y8)), some (.int g380), some (.int g381)], [])) rfl (t_put _ 58 1093 (((3 * y1) + 2) + y8) 0 (mf_put (mf_put I 56 1093 (((3 * y1) + 2) + y8) g380) 57 1093 (((3 * y1) + 2) + y8) (y5 + 1)) J (mm_rf 19 sp rr w nw) rfl rfl) (fun v h hq => ?_)
              obtain ⟨rfl, rfl⟩ := hq
              refine mm_T.seg (f' := (64, [some (.ref 54), some (.int y1), none, some (.ref 19), some (.int y4), some (.int y5), none, some (.int y7), some (.int (y8 + 1)), some (.int (((3 * y1) + 2) + y8)), some (.int g380), some (.int g381)], [])) (h' := (107, (mf_put (mf_put (mf_put I 56 1093 (((3 * y1) + 2) + y8) g380) 57 1093 (((3 * y1) + 2) + y8) (y5 + 1)) 58 1093 (((3 * y1) + 2) + y8) 0), J, mm_rf 19 sp rr w nw)) 2 rfl ?_
              refine mm_T.mask [true, true, false, true, true, true, false, true, true, false, false, false] ?_
              exact ih y1 y4 y5 y7 (y8 + 1) (mf_put (mf_put (mf_put I 56 1093 (((3 * y1) + 2) + y8) g380) 57 1093 (((3 * y1) + 2) + y8) (y5 + 1)) 58 1093 (((3 * y1) + 2) + y8) 0) J 19 sp rr w nw (Or.inr rfl) out e k
            · rw [if_neg h2190] at e
              refine mm_T.seg (f' := (171, [some (.ref 54), some (.int y1), none, some (.ref 19), some (.int y4), some (.int y5), none, some (.int y7), some (.int y8), some (.int (((3 * y1) + 2) + y8)), some (.int g380), some (.int g381)], [(.int y7), (.int (((3 * y1) + 2) + y8)), (.ref 58)])) (h' := (107, (mf_put (mf_put I 56 1093 (((3 * y1) + 2) + y8) g380) 57 1093 (((3 * y1) + 2) + y8) (y5 + 1)), J, mm_rf 19 sp rr w nw)) 1 rfl ?_
              refine mm_T.call (t := 205) (as := [(.ref 58), (.int (((3 * y1) + 2) + y8)), (.int y7)]) (f' := (174, [some (.ref 54), some (.int y1), none, some (.ref 19), some (.int y4), some (.int y5), none, some (.int y7), some (.int y8), some (.int (((3 * y1) + 2) + y8)), some (.int g380), some (.int g381)], [])) rfl (t_put _ 58 1093 (((3 * y1) + 2) + y8) y7 (mf_put (mf_put I 56 1093 (((3 * y1) + 2) + y8) g380) 57 1093 (((3 * y1) + 2) + y8) (y5 + 1)) J (mm_rf 19 sp rr w nw) rfl rfl) (fun v h hq => ?_)
              obtain ⟨rfl, rfl⟩ := hq
              refine mm_T.seg (f' := (64, [some (.ref 54), some (.int y1), none, some (.ref 19), some (.int y4), some (.int y5), none, some (.int y7), some (.int (y8 + 1)), some (.int (((3 * y1) + 2) + y8)), some (.int g380), some (.int g381)], [])) (h' := (107, (mf_put (mf_put (mf_put I 56 1093 (((3 * y1) + 2) + y8) g380) 57 1093 (((3 * y1) + 2) + y8) (y5 + 1)) 58 1093 (((3 * y1) + 2) + y8) y7), J, mm_rf 19 sp rr w nw)) 2 rfl ?_
              refine mm_T.mask [true, true, false, true, true, true, false, true, true, false, false, false] ?_
              exact ih y1 y4 y5 y7 (y8 + 1) (mf_put (mf_put (mf_put I 56 1093 (((3 * y1) + 2) + y8) g380) 57 1093 (((3 * y1) + 2) + y8) (y5 + 1)) 58 1093 (((3 * y1) + 2) + y8) y7) J 19 sp rr w nw (Or.inr rfl) out e k
          · rw [if_neg h2189] at e
            refine mm_T.seg (f' := (146, [some (.ref 54), some (.int y1), none, some (.ref 19), some (.int y4), some (.int y5), none, some (.int y7), some (.int y8), some (.int (((3 * y1) + 2) + y8)), some (.int g380), some (.int g381)], [(.int y5), (.int (((3 * y1) + 2) + y8)), (.ref 57)])) (h' := (107, (mf_put I 56 1093 (((3 * y1) + 2) + y8) g380), J, mm_rf 19 sp rr w nw)) 2 rfl ?_
            refine mm_T.call (t := 205) (as := [(.ref 57), (.int (((3 * y1) + 2) + y8)), (.int y5)]) (f' := (149, [some (.ref 54), some (.int y1), none, some (.ref 19), some (.int y4), some (.int y5), none, some (.int y7), some (.int y8), some (.int (((3 * y1) + 2) + y8)), some (.int g380), some (.int g381)], [])) rfl (t_put _ 57 1093 (((3 * y1) + 2) + y8) y5 (mf_put I 56 1093 (((3 * y1) + 2) + y8) g380) J (mm_rf 19 sp rr w nw) rfl rfl) (fun v h hq => ?_)
            obtain ⟨rfl, rfl⟩ := hq
            refine mm_T.seg (f' := (153, [some (.ref 54), some (.int y1), none, some (.ref 19), some (.int y4), some (.int y5), none, some (.int y7), some (.int y8), some (.int (((3 * y1) + 2) + y8)), some (.int g380), some (.int g381)], [(.ref 58)])) (h' := (107, (mf_put (mf_put I 56 1093 (((3 * y1) + 2) + y8) g380) 57 1093 (((3 * y1) + 2) + y8) y5), J, mm_rf 19 sp rr w nw)) 2 rfl ?_
            refine mm_T.seg (f' := (159, [some (.ref 54), some (.int y1), none, some (.ref 19), some (.int y4), some (.int y5), none, some (.int y7), some (.int y8), some (.int (((3 * y1) + 2) + y8)), some (.int g380), some (.int g381)], [(.int 0), (.ref 19), (.int y7), (.int (((3 * y1) + 2) + y8)), (.ref 58)])) (h' := (107, (mf_put (mf_put I 56 1093 (((3 * y1) + 2) + y8) g380) 57 1093 (((3 * y1) + 2) + y8) y5), J, mm_rf 19 sp rr w nw)) 4 rfl ?_
            obtain ⟨g383, hg383⟩ : ∃ z, fX5_bearsOf 0 19 (mf_put (mf_put I 56 1093 (((3 * y1) + 2) + y8) g380) 57 1093 (((3 * y1) + 2) + y8) y5) = z := ⟨_, rfl⟩
            try rw [hg383] at e
            refine mm_T.call (t := 79) (as := [(.ref 19), (.int 0)]) (f' := (162, [some (.ref 54), some (.int y1), none, some (.ref 19), some (.int y4), some (.int y5), none, some (.int y7), some (.int y8), some (.int (((3 * y1) + 2) + y8)), some (.int g380), some (.int g381)], [(.int y7), (.int (((3 * y1) + 2) + y8)), (.ref 58)])) rfl (tX5_bearsOf (d + 1) 0 19 (mf_put (mf_put I 56 1093 (((3 * y1) + 2) + y8) g380) 57 1093 (((3 * y1) + 2) + y8) y5) J 19 sp rr w nw (Or.inr rfl) g383 hg383) (fun v h hq => ?_)
            obtain ⟨rfl, rfl⟩ := hq
            refine mm_T.br (c := g383 < y7) (a := ((165, [some (.ref 54), some (.int y1), none, some (.ref 19), some (.int y4), some (.int y5), none, some (.int y7), some (.int y8), some (.int (((3 * y1) + 2) + y8)), some (.int g380), some (.int g381)], [(.int (((3 * y1) + 2) + y8)), (.ref 58)]), (107, (mf_put (mf_put I 56 1093 (((3 * y1) + 2) + y8) g380) 57 1093 (((3 * y1) + 2) + y8) y5), J, mm_rf 19 sp rr w nw))) (b := ((169, [some (.ref 54), some (.int y1), none, some (.ref 19), some (.int y4), some (.int y5), none, some (.int y7), some (.int y8), some (.int (((3 * y1) + 2) + y8)), some (.int g380), some (.int g381)], [(.int (((3 * y1) + 2) + y8)), (.ref 58)]), (107, (mf_put (mf_put I 56 1093 (((3 * y1) + 2) + y8) g380) 57 1093 (((3 * y1) + 2) + y8) y5), J, mm_rf 19 sp rr w nw))) rfl (fun h2191 => ?_) (fun h2191 => ?_)
            · rw [if_pos h2191] at e
              refine mm_T.seg (f' := (171, [some (.ref 54), some (.int y1), none, some (.ref 19), some (.int y4), some (.int y5), none, some (.int y7), some (.int y8), some (.int (((3 * y1) + 2) + y8)), some (.int g380), some (.int g381)], [(.int 0), (.int (((3 * y1) + 2) + y8)), (.ref 58)])) (h' := (107, (mf_put (mf_put I 56 1093 (((3 * y1) + 2) + y8) g380) 57 1093 (((3 * y1) + 2) + y8) y5), J, mm_rf 19 sp rr w nw)) 2 rfl ?_
              refine mm_T.call (t := 205) (as := [(.ref 58), (.int (((3 * y1) + 2) + y8)), (.int 0)]) (f' := (174, [some (.ref 54), some (.int y1), none, some (.ref 19), some (.int y4), some (.int y5), none, some (.int y7), some (.int y8), some (.int (((3 * y1) + 2) + y8)), some (.int g380), some (.int g381)], [])) rfl (t_put _ 58 1093 (((3 * y1) + 2) + y8) 0 (mf_put (mf_put I 56 1093 (((3 * y1) + 2) + y8) g380) 57 1093 (((3 * y1) + 2) + y8) y5) J (mm_rf 19 sp rr w nw) rfl rfl) (fun v h hq => ?_)
              obtain ⟨rfl, rfl⟩ := hq
              refine mm_T.seg (f' := (64, [some (.ref 54), some (.int y1), none, some (.ref 19), some (.int y4), some (.int y5), none, some (.int y7), some (.int (y8 + 1)), some (.int (((3 * y1) + 2) + y8)), some (.int g380), some (.int g381)], [])) (h' := (107, (mf_put (mf_put (mf_put I 56 1093 (((3 * y1) + 2) + y8) g380) 57 1093 (((3 * y1) + 2) + y8) y5) 58 1093 (((3 * y1) + 2) + y8) 0), J, mm_rf 19 sp rr w nw)) 2 rfl ?_
              refine mm_T.mask [true, true, false, true, true, true, false, true, true, false, false, false] ?_
              exact ih y1 y4 y5 y7 (y8 + 1) (mf_put (mf_put (mf_put I 56 1093 (((3 * y1) + 2) + y8) g380) 57 1093 (((3 * y1) + 2) + y8) y5) 58 1093 (((3 * y1) + 2) + y8) 0) J 19 sp rr w nw (Or.inr rfl) out e k
            · rw [if_neg h2191] at e
              refine mm_T.seg (f' := (171, [some (.ref 54), some (.int y1), none, some (.ref 19), some (.int y4), some (.int y5), none, some (.int y7), some (.int y8), some (.int (((3 * y1) + 2) + y8)), some (.int g380), some (.int g381)], [(.int y7), (.int (((3 * y1) + 2) + y8)), (.ref 58)])) (h' := (107, (mf_put (mf_put I 56 1093 (((3 * y1) + 2) + y8) g380) 57 1093 (((3 * y1) + 2) + y8) y5), J, mm_rf 19 sp rr w nw)) 1 rfl ?_
              refine mm_T.call (t := 205) (as := [(.ref 58), (.int (((3 * y1) + 2) + y8)), (.int y7)]) (f' := (174, [some (.ref 54), some (.int y1), none, some (.ref 19), some (.int y4), some (.int y5), none, some (.int y7), some (.int y8), some (.int (((3 * y1) + 2) + y8)), some (.int g380), some (.int g381)], [])) rfl (t_put _ 58 1093 (((3 * y1) + 2) + y8) y7 (mf_put (mf_put I 56 1093 (((3 * y1) + 2) + y8) g380) 57 1093 (((3 * y1) + 2) + y8) y5) J (mm_rf 19 sp rr w nw) rfl rfl) (fun v h hq => ?_)
              obtain ⟨rfl, rfl⟩ := hq
              refine mm_T.seg (f' := (64, [some (.ref 54), some (.int y1), none, some (.ref 19), some (.int y4), some (.int y5), none, some (.int y7), some (.int (y8 + 1)), some (.int (((3 * y1) + 2) + y8)), some (.int g380), some (.int g381)], [])) (h' := (107, (mf_put (mf_put (mf_put I 56 1093 (((3 * y1) + 2) + y8) g380) 57 1093 (((3 * y1) + 2) + y8) y5) 58 1093 (((3 * y1) + 2) + y8) y7), J, mm_rf 19 sp rr w nw)) 2 rfl ?_
              refine mm_T.mask [true, true, false, true, true, true, false, true, true, false, false, false] ?_
              exact ih y1 y4 y5 y7 (y8 + 1) (mf_put (mf_put (mf_put I 56 1093 (((3 * y1) + 2) + y8) g380) 57 1093 (((3 * y1) + 2) + y8) y5) 58 1093 (((3 * y1) + 2) + y8) y7) J 19 sp rr w nw (Or.inr rfl) out e k
        · rw [if_neg h2188] at e
          refine mm_T.seg (f' := (123, [some (.ref 54), some (.int y1), none, some (.ref 19), some (.int y4), some (.int y5), none, some (.int y7), some (.int y8), some (.int (((3 * y1) + 2) + y8)), some (.int g380), some (.int g381)], [(.int y4), (.int (((3 * y1) + 2) + y8)), (.ref 56)])) (h' := (107, I, J, mm_rf 19 sp rr w nw)) 2 rfl ?_
          refine mm_T.call (t := 205) (as := [(.ref 56), (.int (((3 * y1) + 2) + y8)), (.int y4)]) (f' := (126, [some (.ref 54), some (.int y1), none, some (.ref 19), some (.int y4), some (.int y5), none, some (.int y7), some (.int y8), some (.int (((3 * y1) + 2) + y8)), some (.int g380), some (.int g381)], [])) rfl (t_put _ 56 1093 (((3 * y1) + 2) + y8) y4 I J (mm_rf 19 sp rr w nw) rfl rfl) (fun v h hq => ?_)
          obtain ⟨rfl, rfl⟩ := hq
          refine mm_T.seg (f' := (130, [some (.ref 54), some (.int y1), none, some (.ref 19), some (.int y4), some (.int y5), none, some (.int y7), some (.int y8), some (.int (((3 * y1) + 2) + y8)), some (.int g380), some (.int g381)], [(.ref 57)])) (h' := (107, (mf_put I 56 1093 (((3 * y1) + 2) + y8) y4), J, mm_rf 19 sp rr w nw)) 2 rfl ?_
          refine mm_T.seg (f' := (134, [some (.ref 54), some (.int y1), none, some (.ref 19), some (.int y4), some (.int y5), none, some (.int y7), some (.int y8), some (.int (((3 * y1) + 2) + y8)), some (.int g380), some (.int g381)], [(.int g381), (.int (((3 * y1) + 2) + y8)), (.ref 57)])) (h' := (107, (mf_put I 56 1093 (((3 * y1) + 2) + y8) y4), J, mm_rf 19 sp rr w nw)) 2 rfl ?_
          refine mm_T.br (c := g381 = 0) (a := ((142, [some (.ref 54), some (.int y1), none, some (.ref 19), some (.int y4), some (.int y5), none, some (.int y7), some (.int y8), some (.int (((3 * y1) + 2) + y8)), some (.int g380), some (.int g381)], [(.int (((3 * y1) + 2) + y8)), (.ref 57)]), (107, (mf_put I 56 1093 (((3 * y1) + 2) + y8) y4), J, mm_rf 19 sp rr w nw))) (b := ((137, [some (.ref 54), some (.int y1), none, some (.ref 19), some (.int y4), some (.int y5), none, some (.int y7), some (.int y8), some (.int (((3 * y1) + 2) + y8)), some (.int g380), some (.int g381)], [(.int (((3 * y1) + 2) + y8)), (.ref 57)]), (107, (mf_put I 56 1093 (((3 * y1) + 2) + y8) y4), J, mm_rf 19 sp rr w nw))) rfl (fun h2192 => ?_) (fun h2192 => ?_)
          · rw [if_pos h2192] at e
            refine mm_T.seg (f' := (146, [some (.ref 54), some (.int y1), none, some (.ref 19), some (.int y4), some (.int y5), none, some (.int y7), some (.int y8), some (.int (((3 * y1) + 2) + y8)), some (.int g380), some (.int g381)], [(.int (y5 + 1)), (.int (((3 * y1) + 2) + y8)), (.ref 57)])) (h' := (107, (mf_put I 56 1093 (((3 * y1) + 2) + y8) y4), J, mm_rf 19 sp rr w nw)) 3 rfl ?_
            refine mm_T.call (t := 205) (as := [(.ref 57), (.int (((3 * y1) + 2) + y8)), (.int (y5 + 1))]) (f' := (149, [some (.ref 54), some (.int y1), none, some (.ref 19), some (.int y4), some (.int y5), none, some (.int y7), some (.int y8), some (.int (((3 * y1) + 2) + y8)), some (.int g380), some (.int g381)], [])) rfl (t_put _ 57 1093 (((3 * y1) + 2) + y8) (y5 + 1) (mf_put I 56 1093 (((3 * y1) + 2) + y8) y4) J (mm_rf 19 sp rr w nw) rfl rfl) (fun v h hq => ?_)
            obtain ⟨rfl, rfl⟩ := hq
            refine mm_T.seg (f' := (153, [some (.ref 54), some (.int y1), none, some (.ref 19), some (.int y4), some (.int y5), none, some (.int y7), some (.int y8), some (.int (((3 * y1) + 2) + y8)), some (.int g380), some (.int g381)], [(.ref 58)])) (h' := (107, (mf_put (mf_put I 56 1093 (((3 * y1) + 2) + y8) y4) 57 1093 (((3 * y1) + 2) + y8) (y5 + 1)), J, mm_rf 19 sp rr w nw)) 2 rfl ?_
            refine mm_T.seg (f' := (159, [some (.ref 54), some (.int y1), none, some (.ref 19), some (.int y4), some (.int y5), none, some (.int y7), some (.int y8), some (.int (((3 * y1) + 2) + y8)), some (.int g380), some (.int g381)], [(.int 0), (.ref 19), (.int y7), (.int (((3 * y1) + 2) + y8)), (.ref 58)])) (h' := (107, (mf_put (mf_put I 56 1093 (((3 * y1) + 2) + y8) y4) 57 1093 (((3 * y1) + 2) + y8) (y5 + 1)), J, mm_rf 19 sp rr w nw)) 4 rfl ?_
            obtain ⟨g384, hg384⟩ : ∃ z, fX5_bearsOf 0 19 (mf_put (mf_put I 56 1093 (((3 * y1) + 2) + y8) y4) 57 1093 (((3 * y1) + 2) + y8) (y5 + 1)) = z := ⟨_, rfl⟩
            try rw [hg384] at e
            refine mm_T.call (t := 79) (as := [(.ref 19), (.int 0)]) (f' := (162, [some (.ref 54), some (.int y1), none, some (.ref 19), some (.int y4), some (.int y5), none, some (.int y7), some (.int y8), some (.int (((3 * y1) + 2) + y8)), some (.int g380), some (.int g381)], [(.int y7), (.int (((3 * y1) + 2) + y8)), (.ref 58)])) rfl (tX5_bearsOf (d + 1) 0 19 (mf_put (mf_put I 56 1093 (((3 * y1) + 2) + y8) y4) 57 1093 (((3 * y1) + 2) + y8) (y5 + 1)) J 19 sp rr w nw (Or.inr rfl) g384 hg384) (fun v h hq => ?_)
            obtain ⟨rfl, rfl⟩ := hq
            refine mm_T.br (c := g384 < y7) (a := ((165, [some (.ref 54), some (.int y1), none, some (.ref 19), some (.int y4), some (.int y5), none, some (.int y7), some (.int y8), some (.int (((3 * y1) + 2) + y8)), some (.int g380), some (.int g381)], [(.int (((3 * y1) + 2) + y8)), (.ref 58)]), (107, (mf_put (mf_put I 56 1093 (((3 * y1) + 2) + y8) y4) 57 1093 (((3 * y1) + 2) + y8) (y5 + 1)), J, mm_rf 19 sp rr w nw))) (b := ((169, [some (.ref 54), some (.int y1), none, some (.ref 19), some (.int y4), some (.int y5), none, some (.int y7), some (.int y8), some (.int (((3 * y1) + 2) + y8)), some (.int g380), some (.int g381)], [(.int (((3 * y1) + 2) + y8)), (.ref 58)]), (107, (mf_put (mf_put I 56 1093 (((3 * y1) + 2) + y8) y4) 57 1093 (((3 * y1) + 2) + y8) (y5 + 1)), J, mm_rf 19 sp rr w nw))) rfl (fun h2193 => ?_) (fun h2193 => ?_)
            · rw [if_pos h2193] at e
              refine mm_T.seg (f' := (171, [some (.ref 54), some (.int y1), none, some (.ref 19), some (.int y4), some (.int y5), none, some (.int y7), some (.int y8), some (.int (((3 * y1) + 2) + y8)), some (.int g380), some (.int g381)], [(.int 0), (.int (((3 * y1) + 2) + y8)), (.ref 58)])) (h' := (107, (mf_put (mf_put I 56 1093 (((3 * y1) + 2) + y8) y4) 57 1093 (((3 * y1) + 2) + y8) (y5 + 1)), J, mm_rf 19 sp rr w nw)) 2 rfl ?_
              refine mm_T.call (t := 205) (as := [(.ref 58), (.int (((3 * y1) + 2) + y8)), (.int 0)]) (f' := (174, [some (.ref 54), some (.int y1), none, some (.ref 19), some (.int y4), some (.int y5), none, some (.int y7), some (.int y8), some (.int (((3 * y1) + 2) + y8)), some (.int g380), some (.int g381)], [])) rfl (t_put _ 58 1093 (((3 * y1) + 2) + y8) 0 (mf_put (mf_put I 56 1093 (((3 * y1) + 2) + y8) y4) 57 1093 (((3 * y1) + 2) + y8) (y5 + 1)) J (mm_rf 19 sp rr w nw) rfl rfl) (fun v h hq => ?_)
              obtain ⟨rfl, rfl⟩ := hq
              refine mm_T.seg (f' := (64, [some (.ref 54), some (.int y1), none, some (.ref 19), some (.int y4), some (.int y5), none, some (.int y7), some (.int (y8 + 1)), some (.int (((3 * y1) + 2) + y8)), some (.int g380), some (.int g381)], [])) (h' := (107, (mf_put (mf_put (mf_put I 56 1093 (((3 * y1) + 2) + y8) y4) 57 1093 (((3 * y1) + 2) + y8) (y5 + 1)) 58 1093 (((3 * y1) + 2) + y8) 0), J, mm_rf 19 sp rr w nw)) 2 rfl ?_
              refine mm_T.mask [true, true, false, true, true, true, false, true, true, false, false, false] ?_
              exact ih y1 y4 y5 y7 (y8 + 1) (mf_put (mf_put (mf_put I 56 1093 (((3 * y1) + 2) + y8) y4) 57 1093 (((3 * y1) + 2) + y8) (y5 + 1)) 58 1093 (((3 * y1) + 2) + y8) 0) J 19 sp rr w nw (Or.inr rfl) out e k
            · rw [if_neg h2193] at e
              refine mm_T.seg (f' := (171, [some (.ref 54), some (.int y1), none, some (.ref 19), some (.int y4), some (.int y5), none, some (.int y7), some (.int y8), some (.int (((3 * y1) + 2) + y8)), some (.int g380), some (.int g381)], [(.int y7), (.int (((3 * y1) + 2) + y8)), (.ref 58)])) (h' := (107, (mf_put (mf_put I 56 1093 (((3 * y1) + 2) + y8) y4) 57 1093 (((3 * y1) + 2) + y8) (y5 + 1)), J, mm_rf 19 sp rr w nw)) 1 rfl ?_
              refine mm_T.call (t := 205) (as := [(.ref 58), (.int (((3 * y1) + 2) + y8)), (.int y7)]) (f' := (174, [some (.ref 54), some (.int y1), none, some (.ref 19), some (.int y4), some (.int y5), none, some (.int y7), some (.int y8), some (.int (((3 * y1) + 2) + y8)), some (.int g380), some (.int g381)], [])) rfl (t_put _ 58 1093 (((3 * y1) + 2) + y8) y7 (mf_put (mf_put I 56 1093 (((3 * y1) + 2) + y8) y4) 57 1093 (((3 * y1) + 2) + y8) (y5 + 1)) J (mm_rf 19 sp rr w nw) rfl rfl) (fun v h hq => ?_)
              obtain ⟨rfl, rfl⟩ := hq
              refine mm_T.seg (f' := (64, [some (.ref 54), some (.int y1), none, some (.ref 19), some (.int y4), some (.int y5), none, some (.int y7), some (.int (y8 + 1)), some (.int (((3 * y1) + 2) + y8)), some (.int g380), some (.int g381)], [])) (h' := (107, (mf_put (mf_put (mf_put I 56 1093 (((3 * y1) + 2) + y8) y4) 57 1093 (((3 * y1) + 2) + y8) (y5 + 1)) 58 1093 (((3 * y1) + 2) + y8) y7), J, mm_rf 19 sp rr w nw)) 2 rfl ?_
              refine mm_T.mask [true, true, false, true, true, true, false, true, true, false, false, false] ?_
              exact ih y1 y4 y5 y7 (y8 + 1) (mf_put (mf_put (mf_put I 56 1093 (((3 * y1) + 2) + y8) y4) 57 1093 (((3 * y1) + 2) + y8) (y5 + 1)) 58 1093 (((3 * y1) + 2) + y8) y7) J 19 sp rr w nw (Or.inr rfl) out e k
          · rw [if_neg h2192] at e
            refine mm_T.seg (f' := (146, [some (.ref 54), some (.int y1), none, some (.ref 19), some (.int y4), some (.int y5), none, some (.int y7), some (.int y8), some (.int (((3 * y1) + 2) + y8)), some (.int g380), some (.int g381)], [(.int y5), (.int (((3 * y1) + 2) + y8)), (.ref 57)])) (h' := (107, (mf_put I 56 1093 (((3 * y1) + 2) + y8) y4), J, mm_rf 19 sp rr w nw)) 2 rfl ?_
            refine mm_T.call (t := 205) (as := [(.ref 57), (.int (((3 * y1) + 2) + y8)), (.int y5)]) (f' := (149, [some (.ref 54), some (.int y1), none, some (.ref 19), some (.int y4), some (.int y5), none, some (.int y7), some (.int y8), some (.int (((3 * y1) + 2) + y8)), some (.int g380), some (.int g381)], [])) rfl (t_put _ 57 1093 (((3 * y1) + 2) + y8) y5 (mf_put I 56 1093 (((3 * y1) + 2) + y8) y4) J (mm_rf 19 sp rr w nw) rfl rfl) (fun v h hq => ?_)
            obtain ⟨rfl, rfl⟩ := hq
            refine mm_T.seg (f' := (153, [some (.ref 54), some (.int y1), none, some (.ref 19), some (.int y4), some (.int y5), none, some (.int y7), some (.int y8), some (.int (((3 * y1) + 2) + y8)), some (.int g380), some (.int g381)], [(.ref 58)])) (h' := (107, (mf_put (mf_put I 56 1093 (((3 * y1) + 2) + y8) y4) 57 1093 (((3 * y1) + 2) + y8) y5), J, mm_rf 19 sp rr w nw)) 2 rfl ?_
            refine mm_T.seg (f' := (159, [some (.ref 54), some (.int y1), none, some (.ref 19), some (.int y4), some (.int y5), none, some (.int y7), some (.int y8), some (.int (((3 * y1) + 2) + y8)), some (.int g380), some (.int g381)], [(.int 0), (.ref 19), (.int y7), (.int (((3 * y1) + 2) + y8)), (.ref 58)])) (h' := (107, (mf_put (mf_put I 56 1093 (((3 * y1) + 2) + y8) y4) 57 1093 (((3 * y1) + 2) + y8) y5), J, mm_rf 19 sp rr w nw)) 4 rfl ?_
            obtain ⟨g385, hg385⟩ : ∃ z, fX5_bearsOf 0 19 (mf_put (mf_put I 56 1093 (((3 * y1) + 2) + y8) y4) 57 1093 (((3 * y1) + 2) + y8) y5) = z := ⟨_, rfl⟩
            try rw [hg385] at e
            refine mm_T.call (t := 79) (as := [(.ref 19), (.int 0)]) (f' := (162, [some (.ref 54), some (.int y1), none, some (.ref 19), some (.int y4), some (.int y5), none, some (.int y7), some (.int y8), some (.int (((3 * y1) + 2) + y8)), some (.int g380), some (.int g381)], [(.int y7), (.int (((3 * y1) + 2) + y8)), (.ref 58)])) rfl (tX5_bearsOf (d + 1) 0 19 (mf_put (mf_put I 56 1093 (((3 * y1) + 2) + y8) y4) 57 1093 (((3 * y1) + 2) + y8) y5) J 19 sp rr w nw (Or.inr rfl) g385 hg385) (fun v h hq => ?_)
            obtain ⟨rfl, rfl⟩ := hq
            refine mm_T.br (c := g385 < y7) (a := ((165, [some (.ref 54), some (.int y1), none, some (.ref 19), some (.int y4), some (.int y5), none, some (.int y7), some (.int y8), some (.int (((3 * y1) + 2) + y8)), some (.int g380), some (.int g381)], [(.int (((3 * y1) + 2) + y8)), (.ref 58)]), (107, (mf_put (mf_put I 56 1093 (((3 * y1) + 2) + y8) y4) 57 1093 (((3 * y1) + 2) + y8) y5), J, mm_rf 19 sp rr w nw))) (b := ((169, [some (.ref 54), some (.int y1), none, some (.ref 19), some (.int y4), some (.int y5), none, some (.int y7), some (.int y8), some (.int (((3 * y1) + 2) + y8)), some (.int g380), some (.int g381)], [(.int (((3 * y1) + 2) + y8)), (.ref 58)]), (107, (mf_put (mf_put I 56 1093 (((3 * y1) + 2) + y8) y4) 57 1093 (((3 * y1) + 2) + y8) y5), J, mm_rf 19 sp rr w nw))) rfl (fun h2194 => ?_) (fun h2194 => ?_)
            · rw [if_pos h2194] at e
              refine mm_T.seg (f' := (171, [some (.ref 54), some (.int y1), none, some (.ref 19), some (.int y4), some (.int y5), none, some (.int y7), some (.int y8), some (.int (((3 * y1) + 2) + y8)), some (.int g380), some (.int g381)], [(.int 0), (.int (((3 * y1) + 2) + y8)), (.ref 58)])) (h' := (107, (mf_put (mf_put I 56 1093 (((3 * y1) + 2) + y8) y4) 57 1093 (((3 * y1) + 2) + y8) y5), J, mm_rf 19 sp rr w nw)) 2 rfl ?_
              refine mm_T.call (t := 205) (as := [(.ref 58), (.int (((3 * y1) + 2) + y8)), (.int 0)]) (f' := (174, [some (.ref 54), some (.int y1), none, some (.ref 19), some (.int y4), some (.int y5), none, some (.int y7), some (.int y8), some (.int (((3 * y1) + 2) + y8)), some (.int g380), some (.int g381)], [])) rfl (t_put _ 58 1093 (((3 * y1) + 2) + y8) 0 (mf_put (mf_put I 56 1093 (((3 * y1) + 2) + y8) y4) 57 1093 (((3 * y1) + 2) + y8) y5) J (mm_rf 19 sp rr w nw) rfl rfl) (fun v h hq => ?_)
              obtain ⟨rfl, rfl⟩ := hq
              refine mm_T.seg (f' := (64, [some (.ref 54), some (.int y1), none, some (.ref 19), some (.int y4), some (.int y5), none, some (.int y7), some (.int (y8 + 1)), some (.int (((3 * y1) + 2) + y8)), some (.int g380), some (.int g381)], [])) (h' := (107, (mf_put (mf_put (mf_put I 56 1093 (((3 * y1) + 2) + y8) y4) 57 1093 (((3 * y1) + 2) + y8) y5) 58 1093 (((3 * y1) + 2) + y8) 0), J, mm_rf 19 sp rr w nw)) 2 rfl ?_
              refine mm_T.mask [true, true, false, true, true, true, false, true, true, false, false, false] ?_
              exact ih y1 y4 y5 y7 (y8 + 1) (mf_put (mf_put (mf_put I 56 1093 (((3 * y1) + 2) + y8) y4) 57 1093 (((3 * y1) + 2) + y8) y5) 58 1093 (((3 * y1) + 2) + y8) 0) J 19 sp rr w nw (Or.inr rfl) out e k
            · rw [if_neg h2194] at e
              refine mm_T.seg (f' := (171, [some (.ref 54), some (.int y1), none, some (.ref 19), some (.int y4), some (.int y5), none, some (.int y7), some (.int y8), some (.int (((3 * y1) + 2) + y8)), some (.int g380), some (.int g381)], [(.int y7), (.int (((3 * y1) + 2) + y8)), (.ref 58)])) (h' := (107, (mf_put (mf_put I 56 1093 (((3 * y1) + 2) + y8) y4) 57 1093 (((3 * y1) + 2) + y8) y5), J, mm_rf 19 sp rr w nw)) 1 rfl ?_
              refine mm_T.call (t := 205) (as := [(.ref 58), (.int (((3 * y1) + 2) + y8)), (.int y7)]) (f' := (174, [some (.ref 54), some (.int y1), none, some (.ref 19), some (.int y4), some (.int y5), none, some (.int y7), some (.int y8), some (.int (((3 * y1) + 2) + y8)), some (.int g380), some (.int g381)], [])) rfl (t_put _ 58 1093 (((3 * y1) + 2) + y8) y7 (mf_put (mf_put I 56 1093 (((3 * y1) + 2) + y8) y4) 57 1093 (((3 * y1) + 2) + y8) y5) J (mm_rf 19 sp rr w nw) rfl rfl) (fun v h hq => ?_)
              obtain ⟨rfl, rfl⟩ := hq
              refine mm_T.seg (f' := (64, [some (.ref 54), some (.int y1), none, some (.ref 19), some (.int y4), some (.int y5), none, some (.int y7), some (.int (y8 + 1)), some (.int (((3 * y1) + 2) + y8)), some (.int g380), some (.int g381)], [])) (h' := (107, (mf_put (mf_put (mf_put I 56 1093 (((3 * y1) + 2) + y8) y4) 57 1093 (((3 * y1) + 2) + y8) y5) 58 1093 (((3 * y1) + 2) + y8) y7), J, mm_rf 19 sp rr w nw)) 2 rfl ?_
              refine mm_T.mask [true, true, false, true, true, true, false, true, true, false, false, false] ?_
              exact ih y1 y4 y5 y7 (y8 + 1) (mf_put (mf_put (mf_put I 56 1093 (((3 * y1) + 2) + y8) y4) 57 1093 (((3 * y1) + 2) + y8) y5) 58 1093 (((3 * y1) + 2) + y8) y7) J 19 sp rr w nw (Or.inr rfl) out e k
set_option maxRecDepth 100000 in
set_option maxHeartbeats 4000000 in
theorem tX10_branch (d n : Nat) (x1 : Int32) (x2 : Int32) (I : Nat → Nat → Int32) (J : Nat → Nat → Int64) (rv sp rr w nw : Nat) (hrv : rv = 3 ∨ rv = 19) (out : (Nat → Nat → Int32)) (e : fX10_branch n x1 x2 I rv = some out) : mm_T none (d + 3) 147 (mm_ent 147 [(.ref 54), (.int x1), (.int x2)]) (107, I, J, mm_rf rv sp rr w nw) (fun v h => v = none ∧ h = (107, out, J, mm_rf rv sp rr w nw)) := by
  rcases hrv with rfl | rfl
  · unfold fX10_branch at e
    refine mm_T.seg (f' := (4, [some (.ref 54), some (.int x1), some (.int x2), none, none, none, none, none, none, none, none, none], [(.ref 18)])) (h' := (107, I, J, mm_rf 3 sp rr w nw)) 2 rfl ?_
    refine mm_T.seg (f' := (12, [some (.ref 54), some (.int x1), some (.int x2), some (.ref 3), none, none, none, none, none, none, none, none], [(.ref 56)])) (h' := (107, I, J, mm_rf 3 sp rr w nw)) 4 rfl ?_
    refine mm_T.seg (f' := (13, [some (.ref 54), some (.int x1), some (.int x2), some (.ref 3), none, none, none, none, none, none, none, none], [(.int x1), (.ref 56)])) (h' := (107, I, J, mm_rf 3 sp rr w nw)) 1 rfl ?_
    refine mm_T.call (t := 204) (as := [(.ref 56), (.int x1)]) (f' := (16, [some (.ref 54), some (.int x1), some (.int x2), some (.ref 3), none, none, none, none, none, none, none, none], [])) rfl (t_pick _ 56 1093 x1 I J (mm_rf 3 sp rr w nw) rfl rfl) (fun v h hq => ?_)
    obtain ⟨rfl, rfl⟩ := hq
    refine mm_T.seg (f' := (22, [some (.ref 54), some (.int x1), some (.int x2), some (.ref 3), some (.int (mf_pick I 56 1093 x1)), none, none, none, none, none, none, none], [(.ref 57)])) (h' := (107, I, J, mm_rf 3 sp rr w nw)) 3 rfl ?_
    refine mm_T.seg (f' := (23, [some (.ref 54), some (.int x1), some (.int x2), some (.ref 3), some (.int (mf_pick I 56 1093 x1)), none, none, none, none, none, none, none], [(.int x1), (.ref 57)])) (h' := (107, I, J, mm_rf 3 sp rr w nw)) 1 rfl ?_
    refine mm_T.call (t := 204) (as := [(.ref 57), (.int x1)]) (f' := (26, [some (.ref 54), some (.int x1), some (.int x2), some (.ref 3), some (.int (mf_pick I 56 1093 x1)), none, none, none, none, none, none, none], [])) rfl (t_pick _ 57 1093 x1 I J (mm_rf 3 sp rr w nw) rfl rfl) (fun v h hq => ?_)
    obtain ⟨rfl, rfl⟩ := hq
    refine mm_T.seg (f' := (32, [some (.ref 54), some (.int x1), some (.int x2), some (.ref 3), some (.int (mf_pick I 56 1093 x1)), some (.int (mf_pick I 57 1093 x1)), none, none, none, none, none, none], [(.ref 58)])) (h' := (107, I, J, mm_rf 3 sp rr w nw)) 3 rfl ?_
    refine mm_T.seg (f' := (33, [some (.ref 54), some (.int x1), some (.int x2), some (.ref 3), some (.int (mf_pick I 56 1093 x1)), some (.int (mf_pick I 57 1093 x1)), none, none, none, none, none, none], [(.int x1), (.ref 58)])) (h' := (107, I, J, mm_rf 3 sp rr w nw)) 1 rfl ?_
    refine mm_T.call (t := 204) (as := [(.ref 58), (.int x1)]) (f' := (36, [some (.ref 54), some (.int x1), some (.int x2), some (.ref 3), some (.int (mf_pick I 56 1093 x1)), some (.int (mf_pick I 57 1093 x1)), none, none, none, none, none, none], [])) rfl (t_pick _ 58 1093 x1 I J (mm_rf 3 sp rr w nw) rfl rfl) (fun v h hq => ?_)
    obtain ⟨rfl, rfl⟩ := hq
    refine mm_T.seg (f' := (52, [some (.ref 54), some (.int x1), some (.int x2), some (.ref 3), some (.int (mf_pick I 56 1093 x1)), some (.int (mf_pick I 57 1093 x1)), some (.int (mf_pick I 58 1093 x1)), none, none, none, none, none], [(.int (mf_pick I 58 1093 x1)), (.int x2), (.int 0), (.int (mf_pick I 56 1093 x1)), (.int (mf_pick I 57 1093 x1)), (.int 0), (.ref 3), (.int (mf_pick I 58 1093 x1)), (.int 99)])) (h' := (107, I, J, mm_rf 3 sp rr w nw)) 10 rfl ?_
    obtain ⟨o2186, eo2186, e⟩ := mm_bind e
    refine mm_T.call (t := 82) (as := [(.ref 3), (.int 0), (.int (mf_pick I 57 1093 x1)), (.int (mf_pick I 56 1093 x1)), (.int 0), (.int x2), (.int (mf_pick I 58 1093 x1))]) (f' := (55, [some (.ref 54), some (.int x1), some (.int x2), some (.ref 3), some (.int (mf_pick I 56 1093 x1)), some (.int (mf_pick I 57 1093 x1)), some (.int (mf_pick I 58 1093 x1)), none, none, none, none, none], [(.int (mf_pick I 58 1093 x1)), (.int 99)])) rfl (tX5_warmth (d + 0) n 0 (mf_pick I 57 1093 x1) (mf_pick I 56 1093 x1) 0 x2 (mf_pick I 58 1093 x1) 3 I J 3 sp rr w nw (Or.inl rfl) o2186 eo2186) (fun v h hq => ?_)
    obtain ⟨rfl, rfl⟩ := hq
    refine mm_T.seg (f' := (56, [some (.ref 54), some (.int x1), some (.int x2), some (.ref 3), some (.int (mf_pick I 56 1093 x1)), some (.int (mf_pick I 57 1093 x1)), some (.int (mf_pick I 58 1093 x1)), none, none, none, none, none], [(.int ((mf_pick I 58 1093 x1) + o2186.1)), (.int 99)])) (h' := (107, o2186.2, J, mm_rf 3 sp rr w nw)) 1 rfl ?_
    obtain ⟨g379, hg379⟩ : ∃ z, fJ9_min 99 ((mf_pick I 58 1093 x1) + o2186.1) = z := ⟨_, rfl⟩
    try rw [hg379] at e
    refine mm_T.call (t := 348) (as := [(.int 99), (.int ((mf_pick I 58 1093 x1) + o2186.1))]) (f' := (59, [some (.ref 54), some (.int x1), some (.int x2), some (.ref 3), some (.int (mf_pick I 56 1093 x1)), some (.int (mf_pick I 57 1093 x1)), some (.int (mf_pick I 58 1093 x1)), none, none, none, none, none], [])) rfl (tJ9_min (d + 2) 99 ((mf_pick I 58 1093 x1) + o2186.1) o2186.2 J 3 sp rr w nw g379 hg379) (fun v h hq => ?_)
    obtain ⟨rfl, rfl⟩ := hq
    refine mm_T.seg (f' := (64, [some (.ref 54), some (.int x1), some (.int x2), some (.ref 3), some (.int (mf_pick I 56 1093 x1)), some (.int (mf_pick I 57 1093 x1)), some (.int (mf_pick I 58 1093 x1)), some (.int g379), some (.int (-1)), none, none, none], [])) (h' := (107, o2186.2, J, mm_rf 3 sp rr w nw)) 3 rfl ?_
    refine mm_T.mask [true, true, false, true, true, true, false, true, true, false, false, false] ?_
    obtain ⟨o2195, eo2195, e⟩ := mm_bind e
    refine tlX10_branch_L64 d _ n x1 (mf_pick I 56 1093 x1) (mf_pick I 57 1093 x1) g379 (-1) o2186.2 J 3 sp rr w nw (Or.inl rfl) o2195 eo2195 ?_
    cases e
    exact mm_T.ret rfl ⟨rfl, rfl⟩
  · unfold fX10_branch at e
    refine mm_T.seg (f' := (4, [some (.ref 54), some (.int x1), some (.int x2), none, none, none, none, none, none, none, none, none], [(.ref 18)])) (h' := (107, I, J, mm_rf 19 sp rr w nw)) 2 rfl ?_
    refine mm_T.seg (f' := (12, [some (.ref 54), some (.int x1), some (.int x2), some (.ref 19), none, none, none, none, none, none, none, none], [(.ref 56)])) (h' := (107, I, J, mm_rf 19 sp rr w nw)) 4 rfl ?_
    refine mm_T.seg (f' := (13, [some (.ref 54), some (.int x1), some (.int x2), some (.ref 19), none, none, none, none, none, none, none, none], [(.int x1), (.ref 56)])) (h' := (107, I, J, mm_rf 19 sp rr w nw)) 1 rfl ?_
    refine mm_T.call (t := 204) (as := [(.ref 56), (.int x1)]) (f' := (16, [some (.ref 54), some (.int x1), some (.int x2), some (.ref 19), none, none, none, none, none, none, none, none], [])) rfl (t_pick _ 56 1093 x1 I J (mm_rf 19 sp rr w nw) rfl rfl) (fun v h hq => ?_)
    obtain ⟨rfl, rfl⟩ := hq
    refine mm_T.seg (f' := (22, [some (.ref 54), some (.int x1), some (.int x2), some (.ref 19), some (.int (mf_pick I 56 1093 x1)), none, none, none, none, none, none, none], [(.ref 57)])) (h' := (107, I, J, mm_rf 19 sp rr w nw)) 3 rfl ?_
    refine mm_T.seg (f' := (23, [some (.ref 54), some (.int x1), some (.int x2), some (.ref 19), some (.int (mf_pick I 56 1093 x1)), none, none, none, none, none, none, none], [(.int x1), (.ref 57)])) (h' := (107, I, J, mm_rf 19 sp rr w nw)) 1 rfl ?_
    refine mm_T.call (t := 204) (as := [(.ref 57), (.int x1)]) (f' := (26, [some (.ref 54), some (.int x1), some (.int x2), some (.ref 19), some (.int (mf_pick I 56 1093 x1)), none, none, none, none, none, none, none], [])) rfl (t_pick _ 57 1093 x1 I J (mm_rf 19 sp rr w nw) rfl rfl) (fun v h hq => ?_)
    obtain ⟨rfl, rfl⟩ := hq
    refine mm_T.seg (f' := (32, [some (.ref 54), some (.int x1), some (.int x2), some (.ref 19), some (.int (mf_pick I 56 1093 x1)), some (.int (mf_pick I 57 1093 x1)), none, none, none, none, none, none], [(.ref 58)])) (h' := (107, I, J, mm_rf 19 sp rr w nw)) 3 rfl ?_
    refine mm_T.seg (f' := (33, [some (.ref 54), some (.int x1), some (.int x2), some (.ref 19), some (.int (mf_pick I 56 1093 x1)), some (.int (mf_pick I 57 1093 x1)), none, none, none, none, none, none], [(.int x1), (.ref 58)])) (h' := (107, I, J, mm_rf 19 sp rr w nw)) 1 rfl ?_
    refine mm_T.call (t := 204) (as := [(.ref 58), (.int x1)]) (f' := (36, [some (.ref 54), some (.int x1), some (.int x2), some (.ref 19), some (.int (mf_pick I 56 1093 x1)), some (.int (mf_pick I 57 1093 x1)), none, none, none, none, none, none], [])) rfl (t_pick _ 58 1093 x1 I J (mm_rf 19 sp rr w nw) rfl rfl) (fun v h hq => ?_)
    obtain ⟨rfl, rfl⟩ := hq
    refine mm_T.seg (f' := (52, [some (.ref 54), some (.int x1), some (.int x2), some (.ref 19), some (.int (mf_pick I 56 1093 x1)), some (.int (mf_pick I 57 1093 x1)), some (.int (mf_pick I 58 1093 x1)), none, none, none, none, none], [(.int (mf_pick I 58 1093 x1)), (.int x2), (.int 0), (.int (mf_pick I 56 1093 x1)), (.int (mf_pick I 57 1093 x1)), (.int 0), (.ref 19), (.int (mf_pick I 58 1093 x1)), (.int 99)])) (h' := (107, I, J, mm_rf 19 sp rr w nw)) 10 rfl ?_
    obtain ⟨o2186, eo2186, e⟩ := mm_bind e
    refine mm_T.call (t := 82) (as := [(.ref 19), (.int 0), (.int (mf_pick I 57 1093 x1)), (.int (mf_pick I 56 1093 x1)), (.int 0), (.int x2), (.int (mf_pick I 58 1093 x1))]) (f' := (55, [some (.ref 54), some (.int x1), some (.int x2), some (.ref 19), some (.int (mf_pick I 56 1093 x1)), some (.int (mf_pick I 57 1093 x1)), some (.int (mf_pick I 58 1093 x1)), none, none, none, none, none], [(.int (mf_pick I 58 1093 x1)), (.int 99)])) rfl (tX5_warmth (d + 0) n 0 (mf_pick I 57 1093 x1) (mf_pick I 56 1093 x1) 0 x2 (mf_pick I 58 1093 x1) 19 I J 19 sp rr w nw (Or.inr rfl) o2186 eo2186) (fun v h hq => ?_)
    obtain ⟨rfl, rfl⟩ := hq
    refine mm_T.seg (f' := (56, [some (.ref 54), some (.int x1), some (.int x2), some (.ref 19), some (.int (mf_pick I 56 1093 x1)), some (.int (mf_pick I 57 1093 x1)), some (.int (mf_pick I 58 1093 x1)), none, none, none, none, none], [(.int ((mf_pick I 58 1093 x1) + o2186.1)), (.int 99)])) (h' := (107, o2186.2, J, mm_rf 19 sp rr w nw)) 1 rfl ?_
    obtain ⟨g379, hg379⟩ : ∃ z, fJ9_min 99 ((mf_pick I 58 1093 x1) + o2186.1) = z := ⟨_, rfl⟩
    try rw [hg379] at e
    refine mm_T.call (t := 348) (as := [(.int 99), (.int ((mf_pick I 58 1093 x1) + o2186.1))]) (f' := (59, [some (.ref 54), some (.int x1), some (.int x2), some (.ref 19), some (.int (mf_pick I 56 1093 x1)), some (.int (mf_pick I 57 1093 x1)), some (.int (mf_pick I 58 1093 x1)), none, none, none, none, none], [])) rfl (tJ9_min (d + 2) 99 ((mf_pick I 58 1093 x1) + o2186.1) o2186.2 J 19 sp rr w nw g379 hg379) (fun v h hq => ?_)
    obtain ⟨rfl, rfl⟩ := hq
    refine mm_T.seg (f' := (64, [some (.ref 54), some (.int x1), some (.int x2), some (.ref 19), some (.int (mf_pick I 56 1093 x1)), some (.int (mf_pick I 57 1093 x1)), some (.int (mf_pick I 58 1093 x1)), some (.int g379), some (.int (-1)), none, none, none], [])) (h' := (107, o2186.2, J, mm_rf 19 sp rr w nw)) 3 rfl ?_
    refine mm_T.mask [true, true, false, true, true, true, false, true, true, false, false, false] ?_
    obtain ⟨o2195, eo2195, e⟩ := mm_bind e
    refine tlX10_branch_L64 d _ n x1 (mf_pick I 56 1093 x1) (mf_pick I 57 1093 x1) g379 (-1) o2186.2 J 19 sp rr w nw (Or.inr rfl) o2195 eo2195 ?_
    cases e
    exact mm_T.ret rfl ⟨rfl, rfl⟩
