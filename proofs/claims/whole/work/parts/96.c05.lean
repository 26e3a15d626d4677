set_option maxRecDepth 100000 in
set_option maxHeartbeats 4000000 in
theorem tlX4_readSum_L12 (d : Nat) (Q : Option Value → mm_H → Prop) (rec : Int32 → (Nat → Nat → Int32) → (Nat → Nat → Int64) → Nat → Option (Int32 × (Nat → Nat → Int32) × (Nat → Nat → Int64))) (hrec : ∀ (x1 : Int32) (I : Nat → Nat → Int32) (J : Nat → Nat → Int64) (rv sp rr w nw : Nat), (rr = 3 ∨ rr = 19) → ∀ (out : Int32 × (Nat → Nat → Int32) × (Nat → Nat → Int64)), rec x1 I J rr = some out → mm_T none d 56 (mm_ent 56 [(.ref 16), (.int x1)]) (107, I, J, mm_rf rv sp rr w nw) (fun v h => v = some (.int out.1) ∧ h = (107, out.2.1, out.2.2, mm_rf rv sp rr w nw))) : ∀ (n : Nat) (y1 : Int32) (y2 : Int32) (I : Nat → Nat → Int32) (J : Nat → Nat → Int64) (rv sp rr w nw : Nat), (rr = 3 ∨ rr = 19) → ∀ (out : (Int32 ⊕ (Unit)) × (Nat → Nat → Int32) × (Nat → Nat → Int64)), fX4_readSum_L12 n rec y1 y2 I J rr = some out → (∀ (r : Int32) (s0 : Nat → Nat → Int32) (s1 : Nat → Nat → Int64), out = (.inl r, s0, s1) → Q (some (.int r)) (107, s0, s1, mm_rf rv sp rr w nw)) → (∀ (y : Unit) (s0 : Nat → Nat → Int32) (s1 : Nat → Nat → Int64), out = (.inr y, s0, s1) → mm_T none (d + 10) 58 (85, [none, none, none, none], []) (107, s0, s1, mm_rf rv sp rr w nw) Q) → mm_T none (d + 10) 58 (12, [some (.ref 16), some (.int y1), some (.int y2), none], []) (107, I, J, mm_rf rv sp rr w nw) Q := by
  intro n
  induction n with
  | zero =>
    intro y1 y2 I J rv sp rr w nw hrr out e kr ke
    rw [fX4_readSum_L12] at e; cases e
  | succ n ih =>
    intro y1 y2 I J rv sp rr w nw hrr out e kr ke
    rcases hrr with rfl | rfl
    · rw [fX4_readSum_L12] at e
      refine mm_T.seg (f' := (16, [some (.ref 16), some (.int y1), some (.int y2), none], [(.int 1600), (.int y2)])) (h' := (107, I, J, mm_rf rv sp 3 w nw)) 2 rfl ?_
      refine mm_T.br (c := y2 < 1600) (a := ((19, [some (.ref 16), some (.int y1), some (.int y2), none], []), (107, I, J, mm_rf rv sp 3 w nw))) (b := ((85, [some (.ref 16), some (.int y1), some (.int y2), none], []), (107, I, J, mm_rf rv sp 3 w nw))) rfl (fun h1858 => ?_) (fun h1858 => ?_)
      · rw [if_pos h1858] at e
        refine mm_T.seg (f' := (22, [some (.ref 16), some (.int y1), some (.int y2), none], [(.int 43), (.ref 16)])) (h' := (107, I, J, mm_rf rv sp 3 w nw)) 2 rfl ?_
        obtain ⟨o1859, eo1859, e⟩ := mm_bind e
        refine mm_T.call (t := 39) (as := [(.ref 16), (.int 43)]) (f' := (25, [some (.ref 16), some (.int y1), some (.int y2), none], [])) rfl (tX4_isSign (d + 8) 43 I J rv sp 3 w nw o1859 eo1859) (fun v h hq => ?_)
        obtain ⟨rfl, rfl⟩ := hq
        refine mm_T.br (c := o1859 = 0) (a := ((28, [some (.ref 16), some (.int y1), some (.int y2), none], []), (107, I, J, mm_rf rv sp 3 w nw))) (b := ((37, [some (.ref 16), some (.int y1), some (.int y2), none], []), (107, I, J, mm_rf rv sp 3 w nw))) rfl (fun h1860 => ?_) (fun h1860 => ?_)
        · rw [if_pos h1860] at e
          refine mm_T.seg (f' := (31, [some (.ref 16), some (.int y1), some (.int y2), none], [(.int 45), (.ref 16)])) (h' := (107, I, J, mm_rf rv sp 3 w nw)) 2 rfl ?_
          obtain ⟨o1861, eo1861, e⟩ := mm_bind e
          refine mm_T.call (t := 39) (as := [(.ref 16), (.int 45)]) (f' := (34, [some (.ref 16), some (.int y1), some (.int y2), none], [])) rfl (tX4_isSign (d + 8) 45 I J rv sp 3 w nw o1861 eo1861) (fun v h hq => ?_)
          obtain ⟨rfl, rfl⟩ := hq
          refine mm_T.br (c := o1861 = 0) (a := ((85, [some (.ref 16), some (.int y1), some (.int y2), none], []), (107, I, J, mm_rf rv sp 3 w nw))) (b := ((37, [some (.ref 16), some (.int y1), some (.int y2), none], []), (107, I, J, mm_rf rv sp 3 w nw))) rfl (fun h1862 => ?_) (fun h1862 => ?_)
          · rw [if_pos h1862] at e
            cases e
            refine mm_T.mask [false, false, false, false] ?_
            exact ke _ _ _ rfl
          · rw [if_neg h1862] at e
            refine mm_T.seg (f' := (40, [some (.ref 16), some (.int y1), some (.int y2), none], [(.int 43), (.ref 16)])) (h' := (107, I, J, mm_rf rv sp 3 w nw)) 2 rfl ?_
            obtain ⟨o1863, eo1863, e⟩ := mm_bind e
            refine mm_T.call (t := 39) (as := [(.ref 16), (.int 43)]) (f' := (43, [some (.ref 16), some (.int y1), some (.int y2), none], [])) rfl (tX4_isSign (d + 8) 43 I J rv sp 3 w nw o1863 eo1863) (fun v h hq => ?_)
            obtain ⟨rfl, rfl⟩ := hq
            refine mm_T.br (c := o1863 = 0) (a := ((51, [some (.ref 16), some (.int y1), some (.int y2), none], []), (107, I, J, mm_rf rv sp 3 w nw))) (b := ((46, [some (.ref 16), some (.int y1), some (.int y2), none], []), (107, I, J, mm_rf rv sp 3 w nw))) rfl (fun h1864 => ?_) (fun h1864 => ?_)
            · rw [if_pos h1864] at e
              refine mm_T.seg (f' := (55, [some (.ref 16), some (.int y1), some (.int y2), some (.int (-14))], [(.ref 16)])) (h' := (107, I, J, mm_rf rv sp 3 w nw)) 3 rfl ?_
              obtain ⟨o1865, eo1865, e⟩ := mm_bind e
              refine mm_T.call (t := 34) (as := [(.ref 16)]) (f' := (58, [some (.ref 16), some (.int y1), some (.int y2), some (.int (-14))], [])) rfl (tX4_advance (d + 5) n I J rv sp 3 w nw o1865 eo1865) (fun v h hq => ?_)
              obtain ⟨rfl, rfl⟩ := hq
              refine mm_T.seg (f' := (60, [some (.ref 16), some (.int y1), some (.int y2), some (.int (-14))], [(.int y1), (.ref 16)])) (h' := (107, o1865.1, o1865.2, mm_rf rv sp 3 w nw)) 2 rfl ?_
              obtain ⟨o1866, eo1866, e⟩ := mm_bind e
              refine mm_T.call (t := 59) (as := [(.ref 16), (.int y1)]) (f' := (63, [some (.ref 16), some (.int y1), some (.int y2), some (.int (-14))], [])) rfl (mm_T.deep (tX4_readTerm d n rec hrec y1 o1865.1 o1865.2 rv sp 3 w nw (Or.inl rfl) o1866 eo1866) (by omega)) (fun v h hq => ?_)
              obtain ⟨rfl, rfl⟩ := hq
              refine mm_T.br (c := o1866.1 = 0) (a := ((66, [some (.ref 16), some (.int y1), some (.int y2), some (.int (-14))], []), (107, o1866.2.1, o1866.2.2, mm_rf rv sp 3 w nw))) (b := ((68, [some (.ref 16), some (.int y1), some (.int y2), some (.int (-14))], []), (107, o1866.2.1, o1866.2.2, mm_rf rv sp 3 w nw))) rfl (fun h1867 => ?_) (fun h1867 => ?_)
              · rw [if_pos h1867] at e
                refine mm_T.seg (f' := (67, [some (.ref 16), some (.int y1), some (.int y2), some (.int (-14))], [(.int 0)])) (h' := (107, o1866.2.1, o1866.2.2, mm_rf rv sp 3 w nw)) 1 rfl ?_
                cases e
                exact mm_T.ret rfl (kr _ _ _ rfl)
              · rw [if_neg h1867] at e
                refine mm_T.seg (f' := (72, [some (.ref 16), some (.int y1), some (.int y2), some (.int (-14))], [(.ref 3)])) (h' := (107, o1866.2.1, o1866.2.2, mm_rf rv sp 3 w nw)) 2 rfl ?_
                refine mm_T.seg (f' := (76, [some (.ref 16), some (.int y1), some (.int y2), some (.int (-14))], [(.int (-14)), (.ref (3 + 1))])) (h' := (107, o1866.2.1, o1866.2.2, mm_rf rv sp 3 w nw)) 2 rfl ?_
                obtain ⟨o1868, eo1868, e⟩ := mm_bind e
                refine mm_T.call (t := 2) (as := [(.ref (3 + 1)), (.int (-14))]) (f' := (79, [some (.ref 16), some (.int y1), some (.int y2), some (.int (-14))], [])) rfl (tX0_add (d + 9) (-14) (3 + 1) o1866.2.1 o1866.2.2 rv sp 3 w nw (Or.inl rfl) o1868 eo1868) (fun v h hq => ?_)
                obtain ⟨rfl, rfl⟩ := hq
                refine mm_T.seg (f' := (12, [some (.ref 16), some (.int y1), some (.int (y2 + 1)), some (.int (-14))], [])) (h' := (107, o1868, o1866.2.2, mm_rf rv sp 3 w nw)) 2 rfl ?_
                refine mm_T.mask [true, true, true, false] ?_
                exact ih y1 (y2 + 1) o1868 o1866.2.2 rv sp 3 w nw (Or.inl rfl) out e kr ke
            · rw [if_neg h1864] at e
              refine mm_T.seg (f' := (55, [some (.ref 16), some (.int y1), some (.int y2), some (.int (-13))], [(.ref 16)])) (h' := (107, I, J, mm_rf rv sp 3 w nw)) 4 rfl ?_
              obtain ⟨o1869, eo1869, e⟩ := mm_bind e
              refine mm_T.call (t := 34) (as := [(.ref 16)]) (f' := (58, [some (.ref 16), some (.int y1), some (.int y2), some (.int (-13))], [])) rfl (tX4_advance (d + 5) n I J rv sp 3 w nw o1869 eo1869) (fun v h hq => ?_)
              obtain ⟨rfl, rfl⟩ := hq
              refine mm_T.seg (f' := (60, [some (.ref 16), some (.int y1), some (.int y2), some (.int (-13))], [(.int y1), (.ref 16)])) (h' := (107, o1869.1, o1869.2, mm_rf rv sp 3 w nw)) 2 rfl ?_
              obtain ⟨o1870, eo1870, e⟩ := mm_bind e
              refine mm_T.call (t := 59) (as := [(.ref 16), (.int y1)]) (f' := (63, [some (.ref 16), some (.int y1), some (.int y2), some (.int (-13))], [])) rfl (mm_T.deep (tX4_readTerm d n rec hrec y1 o1869.1 o1869.2 rv sp 3 w nw (Or.inl rfl) o1870 eo1870) (by omega)) (fun v h hq => ?_)
              obtain ⟨rfl, rfl⟩ := hq
              refine mm_T.br (c := o1870.1 = 0) (a := ((66, [some (.ref 16), some (.int y1), some (.int y2), some (.int (-13))], []), (107, o1870.2.1, o1870.2.2, mm_rf rv sp 3 w nw))) (b := ((68, [some (.ref 16), some (.int y1), some (.int y2), some (.int (-13))], []), (107, o1870.2.1, o1870.2.2, mm_rf rv sp 3 w nw))) rfl (fun h1871 => ?_) (fun h1871 => ?_)
              · rw [if_pos h1871] at e
                refine mm_T.seg (f' := (67, [some (.ref 16), some (.int y1), some (.int y2), some (.int (-13))], [(.int 0)])) (h' := (107, o1870.2.1, o1870.2.2, mm_rf rv sp 3 w nw)) 1 rfl ?_
                cases e
                exact mm_T.ret rfl (kr _ _ _ rfl)
              · rw [if_neg h1871] at e
                refine mm_T.seg (f' := (72, [some (.ref 16), some (.int y1), some (.int y2), some (.int (-13))], [(.ref 3)])) (h' := (107, o1870.2.1, o1870.2.2, mm_rf rv sp 3 w nw)) 2 rfl ?_
                refine mm_T.seg (f' := (76, [some (.ref 16), some (.int y1), some (.int y2), some (.int (-13))], [(.int (-13)), (.ref (3 + 1))])) (h' := (107, o1870.2.1, o1870.2.2, mm_rf rv sp 3 w nw)) 2 rfl ?_
                obtain ⟨o1872, eo1872, e⟩ := mm_bind e
                refine mm_T.call (t := 2) (as := [(.ref (3 + 1)), (.int (-13))]) (f' := (79, [some (.ref 16), some (.int y1), some (.int y2), some (.int (-13))], [])) rfl (tX0_add (d + 9) (-13) (3 + 1) o1870.2.1 o1870.2.2 rv sp 3 w nw (Or.inl rfl) o1872 eo1872) (fun v h hq => ?_)
                obtain ⟨rfl, rfl⟩ := hq
                refine mm_T.seg (f' := (12, [some (.ref 16), some (.int y1), some (.int (y2 + 1)), some (.int (-13))], [])) (h' := (107, o1872, o1870.2.2, mm_rf rv sp 3 w nw)) 2 rfl ?_
                refine mm_T.mask [true, true, true, false] ?_
                exact ih y1 (y2 + 1) o1872 o1870.2.2 rv sp 3 w nw (Or.inl rfl) out e kr ke
        · rw [if_neg h1860] at e
          refine mm_T.seg (f' := (40, [some (.ref 16), some (.int y1), some (.int y2), none], [(.int 43), (.ref 16)])) (h' := (107, I, J, mm_rf rv sp 3 w nw)) 2 rfl ?_
          obtain ⟨o1873, eo1873, e⟩ := mm_bind e
          refine mm_T.call (t := 39) (as := [(.ref 16), (.int 43)]) (f' := (43, [some (.ref 16), some (.int y1), some (.int y2), none], [])) rfl (tX4_isSign (d + 8) 43 I J rv sp 3 w nw o1873 eo1873) (fun v h hq => ?_)
          obtain ⟨rfl, rfl⟩ := hq
          refine mm_T.br (c := o1873 = 0) (a := ((51, [some (.ref 16), some (.int y1), some (.int y2), none], []), (107, I, J, mm_rf rv sp 3 w nw))) (b := ((46, [some (.ref 16), some (.int y1), some (.int y2), none], []), (107, I, J, mm_rf rv sp 3 w nw))) rfl (fun h1874 => ?_) (fun h1874 => ?_)
          · rw [if_pos h1874] at e
            refine mm_T.seg (f' := (55, [some (.ref 16), some (.int y1), some (.int y2), some (.int (-14))], [(.ref 16)])) (h' := (107, I, J, mm_rf rv sp 3 w nw)) 3 rfl ?_
            obtain ⟨o1875, eo1875, e⟩ := mm_bind e
            refine mm_T.call (t := 34) (as := [(.ref 16)]) (f' := (58, [some (.ref 16), some (.int y1), some (.int y2), some (.int (-14))], [])) rfl (tX4_advance (d + 5) n I J rv sp 3 w nw o1875 eo1875) (fun v h hq => ?_)
            obtain ⟨rfl, rfl⟩ := hq
            refine mm_T.seg (f' := (60, [some (.ref 16), some (.int y1), some (.int y2), some (.int (-14))], [(.int y1), (.ref 16)])) (h' := (107, o1875.1, o1875.2, mm_rf rv sp 3 w nw)) 2 rfl ?_
            obtain ⟨o1876, eo1876, e⟩ := mm_bind e
            refine mm_T.call (t := 59) (as := [(.ref 16), (.int y1)]) (f' := (63, [some (.ref 16), some (.int y1), some (.int y2), some (.int (-14))], [])) rfl (mm_T.deep (tX4_readTerm d n rec hrec y1 o1875.1 o1875.2 rv sp 3 w nw (Or.inl rfl) o1876 eo1876) (by omega)) (fun v h hq => ?_)
            obtain ⟨rfl, rfl⟩ := hq
            refine mm_T.br (c := o1876.1 = 0) (a := ((66, [some (.ref 16), some (.int y1), some (.int y2), some (.int (-14))], []), (107, o1876.2.1, o1876.2.2, mm_rf rv sp 3 w nw))) (b := ((68, [some (.ref 16), some (.int y1), some (.int y2), some (.int (-14))], []), (107, o1876.2.1, o1876.2.2, mm_rf rv sp 3 w nw))) rfl (fun h1877 => ?_) (fun h1877 => ?_)
            · rw [if_pos h1877] at e
              refine mm_T.seg (f' := (67, [some (.ref 16), some (.int y1), some (.int y2), some (.int (-14))], [(.int 0)])) (h' := (107, o1876.2.1, o1876.2.2, mm_rf rv sp 3 w nw)) 1 rfl ?_
              cases e
              exact mm_T.ret rfl (kr _ _ _ rfl)
            · rw [if_neg h1877] at e
              refine mm_T.seg (f' := (72, [some (.ref 16), some (.int y1), some (.int y2), some (.int (-14))], [(.ref 3)])) (h' := (107, o1876.2.1, o1876.2.2, mm_rf rv sp 3 w nw)) 2 rfl ?_
              refine mm_T.seg (f' := (76, [some (.ref 16), some (.int y1), some (.int y2), some (.int (-14))], [(.int (-14)), (.ref (3 + 1))])) (h' := (107, o1876.2.1, o1876.2.2, mm_rf rv sp 3 w nw)) 2 rfl ?_
              obtain ⟨o1878, eo1878, e⟩ := mm_bind e
              refine mm_T.call (t := 2) (as := [(.ref (3 + 1)), (.int (-14))]) (f' := (79, [some (.ref 16), some (.int y1), some (.int y2), some (.int (-14))], [])) rfl (tX0_add (d + 9) (-14) (3 + 1) o1876.2.1 o1876.2.2 rv sp 3 w nw (Or.inl rfl) o1878 eo1878) (fun v h hq => ?_)
              obtain ⟨rfl, rfl⟩ := hq
              refine mm_T.seg (f' := (12, [some (.ref 16), some (.int y1), some (.int (y2 + 1)), some (.int (-14))], [])) (h' := (107, o1878, o1876.2.2, mm_rf rv sp 3 w nw)) 2 rfl ?_
              refine mm_T.mask [true, true, true, false] ?_
              exact ih y1 (y2 + 1) o1878 o1876.2.2 rv sp 3 w nw (Or.inl rfl) out e kr ke
          · rw [if_neg h1874] at e
            refine mm_T.seg (f' := (55, [some (.ref 16), some (.int y1), some (.int y2), some (.int (-13))], [(.ref 16)])) (h' := (107, I, J, mm_rf rv sp 3 w nw)) 4 rfl ?_
            obtain ⟨o1879, eo1879, e⟩ := mm_bind e
            refine mm_T.call (t := 34) (as := [(.ref 16)]) (f' := (58, [some (.ref 16), some (.int y1), some (.int y2), some (.int (-13))], [])) rfl (tX4_advance (d + 5) n I J rv sp 3 w nw o1879 eo1879) (fun v h hq => ?_)
            obtain ⟨rfl, rfl⟩ := hq
            refine mm_T.seg (f' := (60, [some (.ref 16), some (.int y1), some (.int y2), some (.int (-13))], [(.int y1), (.ref 16)])) (h' := (107, o1879.1, o1879.2, mm_rf rv sp 3 w nw)) 2 rfl ?_
            obtain ⟨o1880, eo1880, e⟩ := mm_bind e
            refine mm_T.call (t := 59) (as := [(.ref 16), (.int y1)]) (f' := (63, [some (.ref 16), some (.int y1), some (.int y2), some (.int (-13))], [])) rfl (mm_T.deep (tX4_readTerm d n rec hrec y1 o1879.1 o1879.2 rv sp 3 w nw (Or.inl rfl) o1880 eo1880) (by omega)) (fun v h hq => ?_)
            obtain ⟨rfl, rfl⟩ := hq
            refine mm_T.br (c := o1880.1 = 0) (a := ((66, [some (.ref 16), some (.int y1), some (.int y2), some (.int (-13))], []), (107, o1880.2.1, o1880.2.2, mm_rf rv sp 3 w nw))) (b := ((68, [some (.ref 16), some (.int y1), some (.int y2), some (.int (-13))], []), (107, o1880.2.1, o1880.2.2, mm_rf rv sp 3 w nw))) rfl (fun h1881 => ?_) (fun h1881 => ?_)
            · rw [if_pos h1881] at e
              refine mm_T.seg (f' := (67, [some (.ref 16), some (.int y1), some (.int y2), some (.int (-13))], [(.int 0)])) (h' := (107, o1880.2.1, o1880.2.2, mm_rf rv sp 3 w nw)) 1 rfl ?_
              cases e
              exact mm_T.ret rfl (kr _ _ _ rfl)
            · rw [if_neg h1881] at e
              refine mm_T.seg (f' := (72, [some (.ref 16), some (.int y1), some (.int y2), some (.int (-13))], [(.ref 3)])) (h' := (107, o1880.2.1, o1880.2.2, mm_rf rv sp 3 w nw)) 2 rfl ?_
              refine mm_T.seg (f' := (76, [some (.ref 16), some (.int y1), some (.int y2), some (.int (-13))], [(.int (-13)), (.ref (3 + 1))])) (h' := (107, o1880.2.1, o1880.2.2, mm_rf rv sp 3 w nw)) 2 rfl ?_
              obtain ⟨o1882, eo1882, e⟩ := mm_bind e
              refine mm_T.call (t := 2) (as := [(.ref (3 + 1)), (.int (-13))]) (f' := (79, [some (.ref 16), some (.int y1), some (.int y2), some (.int (-13))], [])) rfl (tX0_add (d + 9) (-13) (3 + 1) o1880.2.1 o1880.2.2 rv sp 3 w nw (Or.inl rfl) o1882 eo1882) (fun v h hq => ?_)
              obtain ⟨rfl, rfl⟩ := hq
              refine mm_T.seg (f' := (12, [some (.ref 16), some (.int y1), some (.int (y2 + 1)), some (.int (-13))], [])) (h' := (107, o1882, o1880.2.2, mm_rf rv sp 3 w nw)) 2 rfl ?_
              refine mm_T.mask [true, true, true, false] ?_
              exact ih y1 (y2 + 1) o1882 o1880.2.2 rv sp 3 w nw (Or.inl rfl) out e kr ke
      · rw [if_neg h1858] at e
        cases e
        refine mm_T.mask [false, false, false, false] ?_
        exact ke _ _ _ rfl
    · rw [fX4_readSum_L12] at e
      refine mm_T.seg (f' := (16, [some (.ref 16), some (.int y1), some (.int y2), none], [(.int 1600), (.int y2)])) (h' := (107, I, J, mm_rf rv sp 19 w nw)) 2 rfl ?_
      refine mm_T.br (c := y2 < 1600) (a := ((19, [some (.ref 16), some (.int y1), some (.int y2), none], []), (107, I, J, mm_rf rv sp 19 w nw))) (b := ((85, [some (.ref 16), some (.int y1), some (.int y2), none], []), (107, I, J, mm_rf rv sp 19 w nw))) rfl (fun h1858 => ?_) (fun h1858 => ?_)
      · rw [if_pos h1858] at e
        refine mm_T.seg (f' := (22, [some (.ref 16), some (.int y1), some (.int y2), none], [(.int 43), (.ref 16)])) (h' := (107, I, J, mm_rf rv sp 19 w nw)) 2 rfl ?_
        obtain ⟨o1859, eo1859, e⟩ := mm_bind e
        refine mm_T.call (t := 39) (as := [(.ref 16), (.int 43)]) (f' := (25, [some (.ref 16), some (.int y1), some (.int y2), none], [])) rfl (tX4_isSign (d + 8) 43 I J rv sp 19 w nw o1859 eo1859) (fun v h hq => ?_)
        obtain ⟨rfl, rfl⟩ := hq
        refine mm_T.br (c := o1859 = 0) (a := ((28, [some (.ref 16), some (.int y1), some (.int y2), none], []), (107, I, J, mm_rf rv sp 19 w nw))) (b := ((37, [some (.ref 16), some (.int y1), some (.int y2), none], []), (107, I, J, mm_rf rv sp 19 w nw))) rfl (fun h1860 => ?_) (fun h1860 => ?_)
        · rw [if_pos h1860] at e
          refine mm_T.seg (f' := (31, [some (.ref 16), some (.int y1), some (.int y2), none], [(.int 45), (.ref 16)])) (h' := (107, I, J, mm_rf rv sp 19 w nw)) 2 rfl ?_
          obtain ⟨o1861, eo1861, e⟩ := mm_bind e
          refine mm_T.call (t := 39) (as := [(.ref 16), (.int 45)]) (f' := (34, [some (.ref 16), some (.int y1), some (.int y2), none], [])) rfl (tX4_isSign (d + 8) 45 I J rv sp 19 w nw o1861 eo1861) (fun v h hq => ?_)
          obtain ⟨rfl, rfl⟩ := hq
          refine mm_T.br (c := o1861 = 0) (a := ((85, [some (.ref 16), some (.int y1), some (.int y2), none], []), (107, I, J, mm_rf rv sp 19 w nw))) (b := ((37, [some (.ref 16), some (.int y1), some (.int y2), none], []), (107, I, J, mm_rf rv sp 19 w nw))) rfl (fun h1862 => ?_) (fun h1862 => ?_)
          · rw [if_pos h1862] at e
            cases e
            refine mm_T.mask [false, false, false, false] ?_
            exact ke _ _ _ rfl
          · rw [if_neg h1862] at e
            refine mm_T.seg (f' := (40, [some (.ref 16), some (.int y1), some (.int y2), none], [(.int 43), (.ref 16)])) (h' := (107, I, J, mm_rf rv sp 19 w nw)) 2 rfl ?_
            obtain ⟨o1863, eo1863, e⟩ := mm_bind e
            refine mm_T.call (t := 39) (as := [(.ref 16), (.int 43)]) (f' := (43, [some (.ref 16), some (.int y1), some (.int y2), none], [])) rfl (tX4_isSign (d + 8) 43 I J rv sp 19 w nw o1863 eo1863) (fun v h hq => ?_)
            obtain ⟨rfl, rfl⟩ := hq
            refine mm_T.br (c := o1863 = 0) (a := ((51, [some (.ref 16), some (.int y1), some (.int y2), none], []), (107, I, J, mm_rf rv sp 19 w nw))) (b := ((46, [some (.ref 16), some (.int y1), some (.int y2), none], []), (107, I, J, mm_rf rv sp 19 w nw))) rfl (fun h1864 => ?_) (fun h1864 => ?_)
            · rw [if_pos h1864] at e
              refine mm_T.seg (f' := (55, [some (.ref 16), some (.int y1), some (.int y2), some (.int (-14))], [(.ref 16)])) (h' := (107, I, J, mm_rf rv sp 19 w nw)) 3 rfl ?_
              obtain ⟨o1865, eo1865, e⟩ := mm_bind e
              refine mm_T.call (t := 34) (as := [(.ref 16)]) (f' := (58, [some (.ref 16), some (.int y1), some (.int y2), some (.int (-14))], [])) rfl (tX4_advance (d + 5) n I J rv sp 19 w nw o1865 eo1865) (fun v h hq => ?_)
              obtain ⟨rfl, rfl⟩ := hq
              refine mm_T.seg (f' := (60, [some (.ref 16), some (.int y1), some (.int y2), some (.int (-14))], [(.int y1), (.ref 16)])) (h' := (107, o1865.1, o1865.2, mm_rf rv sp 19 w nw)) 2 rfl ?_
              obtain ⟨o1866, eo1866, e⟩ := mm_bind e
              refine mm_T.call (t := 59) (as := [(.ref 16), (.int y1)]) (f' := (63, [some (.ref 16), some (.int y1), some (.int y2), some (.int (-14))], [])) rfl (mm_T.deep (tX4_readTerm d n rec hrec y1 o1865.1 o1865.2 rv sp 19 w nw (Or.inr rfl) o1866 eo1866) (by omega)) (fun v h hq => ?_)
              obtain ⟨rfl, rfl⟩ := hq
              refine mm_T.br (c := o1866.1 = 0) (a := ((66, [some (.ref 16), some (.int y1), some (.int y2), some (.int (-14))], []), (107, o1866.2.1, o1866.2.2, mm_rf rv sp 19 w nw))) (b := ((68, [some (.ref 16), some (.int y1), some (.int y2), some (.int (-14))], []), (107, o1866.2.1, o1866.2.2, mm_rf rv sp 19 w nw))) rfl (fun h1867 => ?_) (fun h1867 => ?_)
              · rw [if_pos h1867] at e
                refine mm_T.seg (f' := (67, [some (.ref 16), some (.int y1), some (.int y2), some (.int (-14))], [(.int 0)])) (h' := (107, o1866.2.1, o1866.2.2, mm_rf rv sp 19 w nw)) 1 rfl ?_
                cases e
                exact mm_T.ret rfl (kr _ _ _ rfl)
              · rw [if_neg h1867] at e
                refine mm_T.seg (f' := (72, [some (.ref 16), some (.int y1), some (.int y2), some (.int (-14))], [(.ref 19)])) (h' := (107, o1866.2.1, o1866.2.2, mm_rf rv sp 19 w nw)) 2 rfl ?_
                refine mm_T.seg (f' := (76, [some (.ref 16), some (.int y1), some (.int y2), some (.int (-14))], [(.int (-14)), (.ref (19 + 1))])) (h' := (107, o1866.2.1, o1866.2.2, mm_rf rv sp 19 w nw)) 2 rfl ?_
                obtain ⟨o1868, eo1868, e⟩ := mm_bind e
                refine mm_T.call (t := 2) (as := [(.ref (19 + 1)), (.int (-14))]) (f' := (79, [some (.ref 16), some (.int y1), some (.int y2), some (.int (-14))], [])) rfl (tX0_add (d + 9) (-14) (19 + 1) o1866.2.1 o1866.2.2 rv sp 19 w nw (Or.inr rfl) o1868 eo1868) (fun v h hq => ?_)
                obtain ⟨rfl, rfl⟩ := hq
                refine mm_T.seg (f' := (12, [some (.ref 16), some (.int y1), some (.int (y2 + 1)), some (.int (-14))], [])) (h' := (107, o1868, o1866.2.2, mm_rf rv sp 19 w nw)) 2 rfl ?_
                refine mm_T.mask [true, true, true, false] ?_
                exact ih y1 (y2 + 1) o1868 o1866.2.2 rv sp 19 w nw (Or.inr rfl) out e kr ke
            · rw [if_neg h1864] at e
              refine mm_T.seg (f' := (55, [some (.ref 16), some (.int y1), some (.int y2), some (.int (-13))], [(.ref 16)])) (h' := (107, I, J, mm_rf rv sp 19 w nw)) 4 rfl ?_
              obtain ⟨o1869, eo1869, e⟩ := mm_bind e
              refine mm_T.call (t := 34) (as := [(.ref 16)]) (f' := (58, [some (.ref 16), some (.int y1), some (.int y2), some (.int (-13))], [])) rfl (tX4_advance (d + 5) n I J rv sp 19 w nw o1869 eo1869) (fun v h hq => ?_)
              obtain ⟨rfl, rfl⟩ := hq
              refine mm_T.seg (f' := (60, [some (.ref 16), some (.int y1), some (.int y2), some (.int (-13))], [(.int y1), (.ref 16)])) (h' := (107, o1869.1, o1869.2, mm_rf rv sp 19 w nw)) 2 rfl ?_
              obtain ⟨o1870, eo1870, e⟩ := mm_bind e
              refine mm_T.call (t := 59) (as := [(.ref 16), (.int y1)]) (f' := (63, [some (.ref 16), some (.int y1), some (.int y2), some (.int (-13))], [])) rfl (mm_T.deep (tX4_readTerm d n rec hrec y1 o1869.1 o1869.2 rv sp 19 w nw (Or.inr rfl) o1870 eo1870) (by omega)) (fun v h hq => ?_)
              obtain ⟨rfl, rfl⟩ := hq
              refine mm_T.br (c := o1870.1 = 0) (a := ((66, [some (.ref 16), some (.int y1), some (.int y2), some (.int (-13))], []), (107, o1870.2.1, o1870.2.2, mm_rf rv sp 19 w nw))) (b := ((68, [some (.ref 16), some (.int y1), some (.int y2), some (.int (-13))], []), (107, o1870.2.1, o1870.2.2, mm_rf rv sp 19 w nw))) rfl (fun h1871 => ?_) (fun h1871 => ?_)
              · rw [if_pos h1871] at e
                refine mm_T.seg (f' := (67, [some (.ref 16), some (.int y1), some (.int y2), some (.int (-13))], [(.int 0)])) (h' := (107, o1870.2.1, o1870.2.2, mm_rf rv sp 19 w nw)) 1 rfl ?_
                cases e
                exact mm_T.ret rfl (kr _ _ _ rfl)
              · rw [if_neg h1871] at e
                refine mm_T.seg (f' := (72, [some (.ref 16), some (.int y1), some (.int y2), some (.int (-13))], [(.ref 19)])) (h' := (107, o1870.2.1, o1870.2.2, mm_rf rv sp 19 w nw)) 2 rfl ?_
                refine mm_T.seg (f' := (76, [some (.ref 16), some (.int y1), some (.int y2), some (.int (-13))], [(.int (-13)), (.ref (19 + 1))])) (h' := (107, o1870.2.1, o1870.2.2, mm_rf rv sp 19 w nw)) 2 rfl ?_
                obtain ⟨o1872, eo1872, e⟩ := mm_bind e
                refine mm_T.call (t := 2) (as := [(.ref (19 + 1)), (.int (-13))]) (f' := (79, [some (.ref 16), some (.int y1), some (.int y2), some (.int (-13))], [])) rfl (tX0_add (d + 9) (-13) (19 + 1) o1870.2.1 o1870.2.2 rv sp 19 w nw (Or.inr rfl) o1872 eo1872) (fun v h hq => ?_)
                obtain ⟨rfl, rfl⟩ := hq
                refine mm_T.seg (f' := (12, [some (.ref 16), some (.int y1), some (.int (y2 + 1)), some (.int (-13))], [])) (h' := (107, o1872, o1870.2.2, mm_rf rv sp 19 w nw)) 2 rfl ?_
                refine mm_T.mask [true, true, true, false] ?_
                exact ih y1 (y2 + 1) o1872 o1870.2.2 rv sp 19 w nw (Or.inr rfl) out e kr ke
        · rw [if_neg h1860] at e
          refine mm_T.seg (f' := (40, [some (.ref 16), some (.int y1), some (.int y2), none], [(.int 43), (.ref 16)])) (h' := (107, I, J, mm_rf rv sp 19 w nw)) 2 rfl ?_
          obtain ⟨o1873, eo1873, e⟩ := mm_bind e
          refine mm_T.call (t := 39) (as := [(.ref 16), (.int 43)]) (f' := (43, [some (.ref 16), some (.int y1), some (.int y2), none], [])) rfl (tX4_isSign (d + 8) 43 I J rv sp 19 w nw o1873 eo1873) (fun v h hq => ?_)
          obtain ⟨rfl, rfl⟩ := hq
          refine mm_T.br (c := o1873 = 0) (a := ((51, [some (.ref 16), some (.int y1), some (.int y2), none], []), (107, I, J, mm_rf rv sp 19 w nw))) (b := ((46, [some (.ref 16), some (.int y1), some (.int y2), none], []), (107, I, J, mm_rf rv sp 19 w nw))) rfl (fun h1874 => ?_) (fun h1874 => ?_)
          · rw [if_pos h1874] at e
            refine mm_T.seg (f' := (55, [some (.ref 16), some (.int y1), some (.int y2), some (.int (-14))], [(.ref 16)])) (h' := (107, I, J, mm_rf rv sp 19 w nw)) 3 rfl ?_
            obtain ⟨o1875, eo1875, e⟩ := mm_bind e
            refine mm_T.call (t := 34) (as := [(.ref 16)]) (f' := (58, [some (.ref 16), some (.int y1), some (.int y2), some (.int (-14))], [])) rfl (tX4_advance (d + 5) n I J rv sp 19 w nw o1875 eo1875) (fun v h hq => ?_)
            obtain ⟨rfl, rfl⟩ := hq
            refine mm_T.seg (f' := (60, [some (.ref 16), some (.int y1), some (.int y2), some (.int (-14))], [(.int y1), (.ref 16)])) (h' := (107, o1875.1, o1875.2, mm_rf rv sp 19 w nw)) 2 rfl ?_
            obtain ⟨o1876, eo1876, e⟩ := mm_bind e
            refine mm_T.call (t := 59) (as := [(.ref 16), (.int y1)]) (f' := (63, [some (.ref 16), some (.int y1), some (.int y2), some (.int (-14))], [])) rfl (mm_T.deep (tX4_readTerm d n rec hrec y1 o1875.1 o1875.2 rv sp 19 w nw (Or.inr rfl) o1876 eo1876) (by omega)) (fun v h hq => ?_)
            obtain ⟨rfl, rfl⟩ := hq
            refine mm_T.br (c := o1876.1 = 0) (a := ((66, [some (.ref 16), some (.int y1), some (.int y2), some (.int (-14))], []), (107, o1876.2.1, o1876.2.2, mm_rf rv sp 19 w nw))) (b := ((68, [some (.ref 16), some (.int y1), some (.int y2), some (.int (-14))], []), (107, o1876.2.1, o1876.2.2, mm_rf rv sp 19 w nw))) rfl (fun h1877 => ?_) (fun h1877 => ?_)
            · rw [if_pos h1877] at e
              refine mm_T.seg (f' := (67, [some (.ref 16), some (.int y1), some (.int y2), some (.int (-14))], [(.int 0)])) (h' := (107, o1876.2.1, o1876.2.2, mm_rf rv sp 19 w nw)) 1 rfl ?_
              cases e
              exact mm_T.ret rfl (kr _ _ _ rfl)
            · rw [if_neg h1877] at e
              refine mm_T.seg (f' := (72, [some (.ref 16), some (.int y1), some (.int y2), some (.int (-14))], [(.ref 19)])) (h' := (107, o1876.2.1, o1876.2.2, mm_rf rv sp 19 w nw)) 2 rfl ?_
              refine mm_T.seg (f' := (76, [some (.ref 16), some (.int y1), some (.int y2), some (.int (-14))], [(.int (-14)), (.ref (19 + 1))])) (h' := (107, o1876.2.1, o1876.2.2, mm_rf rv sp 19 w nw)) 2 rfl ?_
              obtain ⟨o1878, eo1878, e⟩ := mm_bind e
              refine mm_T.call (t := 2) (as := [(.ref (19 + 1)), (.int (-14))]) (f' := (79, [some (.ref 16), some (.int y1), some (.int y2), some (.int (-14))], [])) rfl (tX0_add (d + 9) (-14) (19 + 1) o1876.2.1 o1876.2.2 rv sp 19 w nw (Or.inr rfl) o1878 eo1878) (fun v h hq => ?_)
              obtain ⟨rfl, rfl⟩ := hq
              refine mm_T.seg (f' := (12, [some (.ref 16), some (.int y1), some (.int (y2 + 1)), some (.int (-14))], [])) (h' := (107, o1878, o1876.2.2, mm_rf rv sp 19 w nw)) 2 rfl ?_
              refine mm_T.mask [true, true, true, false] ?_
              exact ih y1 (y2 + 1) o1878 o1876.2.2 rv sp 19 w nw (Or.inr rfl) out e kr ke
          · rw [if_neg h1874] at e
            refine mm_T.seg (f' := (55, [some (.ref 16), some (.int y1), some (.int y2), some (.int (-13))], [(.ref 16)])) (h' := (107, I, J, mm_rf rv sp 19 w nw)) 4 rfl ?_
            obtain ⟨o1879, eo1879, e⟩ := mm_bind e
            refine mm_T.call (t := 34) (as := [(.ref 16)]) (f' := (58, [some (.ref 16), some (.int y1), some (.int y2), some (.int (-13))], [])) rfl (tX4_advance (d + 5) n I J rv sp 19 w nw o1879 eo1879) (fun v h hq => ?_)
            obtain ⟨rfl, rfl⟩ := hq
            refine mm_T.seg (f' := (60, [some (.ref 16), some (.int y1), some (.int y2), some (.int (-13))], [(.int y1), (.ref 16)])) (h' := (107, o1879.1, o1879.2, mm_rf rv sp 19 w nw)) 2 rfl ?_
            obtain ⟨o1880, eo1880, e⟩ := mm_bind e
            refine mm_T.call (t := 59) (as := [(.ref 16), (.int y1)]) (f' := (63, [some (.ref 16), some (.int y1), some (.int y2), some (.int (-13))], [])) rfl (mm_T.deep (tX4_readTerm d n rec hrec y1 o1879.1 o1879.2 rv sp 19 w nw (Or.inr rfl) o1880 eo1880) (by omega)) (fun v h hq => ?_)
            obtain ⟨rfl, rfl⟩ := hq
            refine mm_T.br (c := o1880.1 = 0) (a := ((66, [some (.ref 16), some (.int y1), some (.int y2), some (.int (-13))], []), (107, o1880.2.1, o1880.2.2, mm_rf rv sp 19 w nw))) (b := ((68, [some (.ref 16), some (.int y1), some (.int y2), some (.int (-13))], []), (107, o1880.2.1, o1880.2.2, mm_rf rv sp 19 w nw))) rfl (fun h1881 => ?_) (fun h1881 => ?_)
            · rw [if_pos h1881] at e
              refine mm_T.seg (f' := (67, [some (.ref 16), some (.int y1), some (.int y2), some (.int (-13))], [(.int 0)])) (h' := (107, o1880.2.1, o1880.2.2, mm_rf rv sp 19 w nw)) 1 rfl ?_
              cases e
              exact mm_T.ret rfl (kr _ _ _ rfl)
            · rw [if_neg h1881] at e
              refine mm_T.seg (f' := (72, [some (.ref 16), some (.int y1), some (.int y2), some (.int (-13))], [(.ref 19)])) (h' := (107, o1880.2.1, o1880.2.2, mm_rf rv sp 19 w nw)) 2 rfl ?_
              refine mm_T.seg (f' := (76, [some (.ref 16), some (.int y1), some (.int y2), some (.int (-13))], [(.int (-13)), (.ref (19 + 1))])) (h' := (107, o1880.2.1, o1880.2.2, mm_rf rv sp 19 w nw)) 2 rfl ?_
              obtain ⟨o1882, eo1882, e⟩ := mm_bind e
              refine mm_T.call (t := 2) (as := [(.ref (19 + 1)), (.int (-13))]) (f' := (79, [some (.ref 16), some (.int y1), some (.int y2), some (.int (-13))], [])) rfl (tX0_add (d + 9) (-13) (19 + 1) o1880.2.1 o1880.2.2 rv sp 19 w nw (Or.inr rfl) o1882 eo1882) (fun v h hq => ?_)
              obtain ⟨rfl, rfl⟩ := hq
              refine mm_T.seg (f' := (12, [some (.ref 16), some (.int y1), some (.int (y2 + 1)), some (.int (-13))], [])) (h' := (107, o1882, o1880.2.2, mm_rf rv sp 19 w nw)) 2 rfl ?_
              refine mm_T.mask [true, true, true, false] ?_
              exact ih y1 (y2 + 1) o1882 o1880.2.2 rv sp 19 w nw (Or.inr rfl) out e kr ke
      · rw [if_neg h1858] at e
        cases e
        refine mm_T.mask [false, false, false, false] ?_
        exact ke _ _ _ rfl
set_option maxRecDepth 100000 in
set_option maxHeartbeats 4000000 in
theorem tX4_readSum (d n : Nat) (rec : Int32 → (Nat → Nat → Int32) → (Nat → Nat → Int64) → Nat → Option (Int32 × (Nat → Nat → Int32) × (Nat → Nat → Int64))) (hrec : ∀ (x1 : Int32) (I : Nat → Nat → Int32) (J : Nat → Nat → Int64) (rv sp rr w nw : Nat), (rr = 3 ∨ rr = 19) → ∀ (out : Int32 × (Nat → Nat → Int32) × (Nat → Nat → Int64)), rec x1 I J rr = some out → mm_T none d 56 (mm_ent 56 [(.ref 16), (.int x1)]) (107, I, J, mm_rf rv sp rr w nw) (fun v h => v = some (.int out.1) ∧ h = (107, out.2.1, out.2.2, mm_rf rv sp rr w nw))) (x1 : Int32) (I : Nat → Nat → Int32) (J : Nat → Nat → Int64) (rv sp rr w nw : Nat) (hrr : rr = 3 ∨ rr = 19) (out : Int32 × (Nat → Nat → Int32) × (Nat → Nat → Int64)) (e : fX4_readSum n rec x1 I J rr = some out) : mm_T none (d + 10) 58 (mm_ent 58 [(.ref 16), (.int x1)]) (107, I, J, mm_rf rv sp rr w nw) (fun v h => v = some (.int out.1) ∧ h = (107, out.2.1, out.2.2, mm_rf rv sp rr w nw)) := by
  rcases hrr with rfl | rfl
  · unfold fX4_readSum at e
    refine mm_T.seg (f' := (2, [some (.ref 16), some (.int x1), none, none], [(.int x1), (.ref 16)])) (h' := (107, I, J, mm_rf rv sp 3 w nw)) 2 rfl ?_
    obtain ⟨o1831, eo1831, e⟩ := mm_bind e
    refine mm_T.call (t := 59) (as := [(.ref 16), (.int x1)]) (f' := (5, [some (.ref 16), some (.int x1), none, none], [])) rfl (mm_T.deep (tX4_readTerm d n rec hrec x1 I J rv sp 3 w nw (Or.inl rfl) o1831 eo1831) (by omega)) (fun v h hq => ?_)
    obtain ⟨rfl, rfl⟩ := hq
    refine mm_T.br (c := o1831.1 = 0) (a := ((8, [some (.ref 16), some (.int x1), none, none], []), (107, o1831.2.1, o1831.2.2, mm_rf rv sp 3 w nw))) (b := ((10, [some (.ref 16), some (.int x1), none, none], []), (107, o1831.2.1, o1831.2.2, mm_rf rv sp 3 w nw))) rfl (fun h1832 => ?_) (fun h1832 => ?_)
    · rw [if_pos h1832] at e
      refine mm_T.seg (f' := (9, [some (.ref 16), some (.int x1), none, none], [(.int 0)])) (h' := (107, o1831.2.1, o1831.2.2, mm_rf rv sp 3 w nw)) 1 rfl ?_
      cases e
      exact mm_T.ret rfl ⟨rfl, rfl⟩
    · rw [if_neg h1832] at e
      refine mm_T.seg (f' := (12, [some (.ref 16), some (.int x1), some (.int 0), none], [])) (h' := (107, o1831.2.1, o1831.2.2, mm_rf rv sp 3 w nw)) 2 rfl ?_
      refine mm_T.mask [true, true, true, false] ?_
      obtain ⟨o1883, eo1883, e⟩ := mm_bind e
      rcases o1883 with ⟨va1884 | vb1884, vs1884_0, vs1884_1⟩
      · cases e
        refine tlX4_readSum_L12 d _ rec hrec n x1 0 o1831.2.1 o1831.2.2 rv sp 3 w nw (Or.inl rfl) _ eo1883 (fun z z0 z1 hz => ?_) (fun z z0 z1 hz => ?_)
        · cases hz; exact ⟨rfl, rfl⟩
        · cases hz
      · refine tlX4_readSum_L12 d _ rec hrec n x1 0 o1831.2.1 o1831.2.2 rv sp 3 w nw (Or.inl rfl) (.inr vb1884, vs1884_0, vs1884_1) eo1883 (fun z z0 z1 hz => ?_) (fun z z0 z1 hz => ?_)
        · cases hz
        · cases hz
          refine mm_T.seg (f' := (86, [none, none, none, none], [(.int 1)])) (h' := (107, vs1884_0, vs1884_1, mm_rf rv sp 3 w nw)) 1 rfl ?_
          cases e
          exact mm_T.ret rfl ⟨rfl, rfl⟩
  · unfold fX4_readSum at e
    refine mm_T.seg (f' := (2, [some (.ref 16), some (.int x1), none, none], [(.int x1), (.ref 16)])) (h' := (107, I, J, mm_rf rv sp 19 w nw)) 2 rfl ?_
    obtain ⟨o1831, eo1831, e⟩ := mm_bind e
    refine mm_T.call (t := 59) (as := [(.ref 16), (.int x1)]) (f' := (5, [some (.ref 16), some (.int x1), none, none], [])) rfl (mm_T.deep (tX4_readTerm d n rec hrec x1 I J rv sp 19 w nw (Or.inr rfl) o1831 eo1831) (by omega)) (fun v h hq => ?_)
    obtain ⟨rfl, rfl⟩ := hq
    refine mm_T.br (c := o1831.1 = 0) (a := ((8, [some (.ref 16), some (.int x1), none, none], []), (107, o1831.2.1, o1831.2.2, mm_rf rv sp 19 w nw))) (b := ((10, [some (.ref 16), some (.int x1), none, none], []), (107, o1831.2.1, o1831.2.2, mm_rf rv sp 19 w nw))) rfl (fun h1832 => ?_) (fun h1832 => ?_)
    · rw [if_pos h1832] at e
      refine mm_T.seg (f' := (9, [some (.ref 16), some (.int x1), none, none], [(.int 0)])) (h' := (107, o1831.2.1, o1831.2.2, mm_rf rv sp 19 w nw)) 1 rfl ?_
      cases e
      exact mm_T.ret rfl ⟨rfl, rfl⟩
    · rw [if_neg h1832] at e
      refine mm_T.seg (f' := (12, [some (.ref 16), some (.int x1), some (.int 0), none], [])) (h' := (107, o1831.2.1, o1831.2.2, mm_rf rv sp 19 w nw)) 2 rfl ?_
      refine mm_T.mask [true, true, true, false] ?_
      obtain ⟨o1883, eo1883, e⟩ := mm_bind e
      rcases o1883 with ⟨va1884 | vb1884, vs1884_0, vs1884_1⟩
      · cases e
        refine tlX4_readSum_L12 d _ rec hrec n x1 0 o1831.2.1 o1831.2.2 rv sp 19 w nw (Or.inr rfl) _ eo1883 (fun z z0 z1 hz => ?_) (fun z z0 z1 hz => ?_)
        · cases hz; exact ⟨rfl, rfl⟩
        · cases hz
      · refine tlX4_readSum_L12 d _ rec hrec n x1 0 o1831.2.1 o1831.2.2 rv sp 19 w nw (Or.inr rfl) (.inr vb1884, vs1884_0, vs1884_1) eo1883 (fun z z0 z1 hz => ?_) (fun z z0 z1 hz => ?_)
        · cases hz
        · cases hz
          refine mm_T.seg (f' := (86, [none, none, none, none], [(.int 1)])) (h' := (107, vs1884_0, vs1884_1, mm_rf rv sp 19 w nw)) 1 rfl ?_
          cases e
          exact mm_T.ret rfl ⟨rfl, rfl⟩
set_option maxRecDepth 100000 in
set_option maxHeartbeats 4000000 in
theorem tX4_readNot (d n : Nat) (rec : Int32 → (Nat → Nat → Int32) → (Nat → Nat → Int64) → Nat → Option (Int32 × (Nat → Nat → Int32) × (Nat → Nat → Int64))) (hrec : ∀ (x1 : Int32) (I : Nat → Nat → Int32) (J : Nat → Nat → Int64) (rv sp rr w nw : Nat), (rr = 3 ∨ rr = 19) → ∀ (out : Int32 × (Nat → Nat → Int32) × (Nat → Nat → Int64)), rec x1 I J rr = some out → mm_T none d 56 (mm_ent 56 [(.ref 16), (.int x1)]) (107, I, J, mm_rf rv sp rr w nw) (fun v h => v = some (.int out.1) ∧ h = (107, out.2.1, out.2.2, mm_rf rv sp rr w nw))) (x1 : Int32) (I : Nat → Nat → Int32) (J : Nat → Nat → Int64) (rv sp rr w nw : Nat) (hrr : rr = 3 ∨ rr = 19) (out : Int32 × (Nat → Nat → Int32) × (Nat → Nat → Int64)) (e : fX4_readNot n rec x1 I J rr = some out) : mm_T none (d + 5) 57 (mm_ent 57 [(.ref 16), (.int x1)]) (107, I, J, mm_rf rv sp rr w nw) (fun v h => v = some (.int out.1) ∧ h = (107, out.2.1, out.2.2, mm_rf rv sp rr w nw)) := by
  rcases hrr with rfl | rfl
  · unfold fX4_readNot at e
    refine mm_T.seg (f' := (3, [some (.ref 16), some (.int x1)], [(.int 7), (.int x1)])) (h' := (107, I, J, mm_rf rv sp 3 w nw)) 2 rfl ?_
    refine mm_T.br (c := x1 < 7) (a := ((12, [some (.ref 16), some (.int x1)], []), (107, I, J, mm_rf rv sp 3 w nw))) (b := ((6, [some (.ref 16), some (.int x1)], []), (107, I, J, mm_rf rv sp 3 w nw))) rfl (fun h1898 => ?_) (fun h1898 => ?_)
    · rw [if_pos h1898] at e
      refine mm_T.seg (f' := (13, [some (.ref 16), some (.int x1)], [(.ref 16)])) (h' := (107, I, J, mm_rf rv sp 3 w nw)) 1 rfl ?_
      obtain ⟨o1899, eo1899, e⟩ := mm_bind e
      refine mm_T.call (t := 34) (as := [(.ref 16)]) (f' := (16, [some (.ref 16), some (.int x1)], [])) rfl (tX4_advance (d + 0) n I J rv sp 3 w nw o1899 eo1899) (fun v h hq => ?_)
      obtain ⟨rfl, rfl⟩ := hq
      refine mm_T.seg (f' := (20, [some (.ref 16), some (.int x1)], [(.int (x1 + 1)), (.ref 16)])) (h' := (107, o1899.1, o1899.2, mm_rf rv sp 3 w nw)) 4 rfl ?_
      obtain ⟨o1900, eo1900, e⟩ := mm_bind e
      refine mm_T.call (t := 56) (as := [(.ref 16), (.int (x1 + 1))]) (f' := (23, [some (.ref 16), some (.int x1)], [])) rfl (mm_T.deep (hrec (x1 + 1) o1899.1 o1899.2 rv sp 3 w nw (Or.inl rfl) o1900 eo1900) (by omega)) (fun v h hq => ?_)
      obtain ⟨rfl, rfl⟩ := hq
      refine mm_T.br (c := o1900.1 = 0) (a := ((26, [some (.ref 16), some (.int x1)], []), (107, o1900.2.1, o1900.2.2, mm_rf rv sp 3 w nw))) (b := ((28, [some (.ref 16), some (.int x1)], []), (107, o1900.2.1, o1900.2.2, mm_rf rv sp 3 w nw))) rfl (fun h1901 => ?_) (fun h1901 => ?_)
      · rw [if_pos h1901] at e
        refine mm_T.seg (f' := (27, [some (.ref 16), some (.int x1)], [(.int 0)])) (h' := (107, o1900.2.1, o1900.2.2, mm_rf rv sp 3 w nw)) 1 rfl ?_
        cases e
        exact mm_T.ret rfl ⟨rfl, rfl⟩
      · rw [if_neg h1901] at e
        refine mm_T.seg (f' := (32, [some (.ref 16), some (.int x1)], [(.ref 3)])) (h' := (107, o1900.2.1, o1900.2.2, mm_rf rv sp 3 w nw)) 2 rfl ?_
        refine mm_T.seg (f' := (37, [some (.ref 16), some (.int x1)], [(.int (-7)), (.ref (3 + 1))])) (h' := (107, o1900.2.1, o1900.2.2, mm_rf rv sp 3 w nw)) 2 rfl ?_
        obtain ⟨o1902, eo1902, e⟩ := mm_bind e
        refine mm_T.call (t := 2) (as := [(.ref (3 + 1)), (.int (-7))]) (f' := (40, [some (.ref 16), some (.int x1)], [])) rfl (tX0_add (d + 4) (-7) (3 + 1) o1900.2.1 o1900.2.2 rv sp 3 w nw (Or.inl rfl) o1902 eo1902) (fun v h hq => ?_)
        obtain ⟨rfl, rfl⟩ := hq
        refine mm_T.seg (f' := (41, [some (.ref 16), some (.int x1)], [(.int 1)])) (h' := (107, o1902, o1900.2.2, mm_rf rv sp 3 w nw)) 1 rfl ?_
        cases e
        exact mm_T.ret rfl ⟨rfl, rfl⟩
    · rw [if_neg h1898] at e
      refine mm_T.seg (f' := (8, [some (.ref 16), some (.int x1)], [(.int 2), (.ref 16)])) (h' := (107, I, J, mm_rf rv sp 3 w nw)) 2 rfl ?_
      obtain ⟨g244, hg244⟩ : ∃ z, fX4_refuse 2 I = z := ⟨_, rfl⟩
      try rw [hg244] at e
      refine mm_T.call (t := 30) (as := [(.ref 16), (.int 2)]) (f' := (11, [some (.ref 16), some (.int x1)], [])) rfl (tX4_refuse (d + 4) 2 I J rv sp 3 w nw g244 hg244) (fun v h hq => ?_)
      obtain ⟨rfl, rfl⟩ := hq
      by_cases h1903 : g244.1 = 0 ∨ g244.1 = 1
      case neg => rw [if_neg h1903] at e; cases e
      rw [if_pos h1903] at e
      cases e
      first | exact mm_T.retZ (v := some (.int g244.1)) rfl h1903 ⟨rfl, rfl⟩ | exact mm_T.retZ (v := some (.int out)) rfl h1903 ⟨rfl, rfl⟩
  · unfold fX4_readNot at e
    refine mm_T.seg (f' := (3, [some (.ref 16), some (.int x1)], [(.int 7), (.int x1)])) (h' := (107, I, J, mm_rf rv sp 19 w nw)) 2 rfl ?_
    refine mm_T.br (c := x1 < 7) (a := ((12, [some (.ref 16), some (.int x1)], []), (107, I, J, mm_rf rv sp 19 w nw))) (b := ((6, [some (.ref 16), some (.int x1)], []), (107, I, J, mm_rf rv sp 19 w nw))) rfl (fun h1898 => ?_) (fun h1898 => ?_)
    · rw [if_pos h1898] at e
      refine mm_T.seg (f' := (13, [some (.ref 16), some (.int x1)], [(.ref 16)])) (h' := (107, I, J, mm_rf rv sp 19 w nw)) 1 rfl ?_
      obtain ⟨o1899, eo1899, e⟩ := mm_bind e
      refine mm_T.call (t := 34) (as := [(.ref 16)]) (f' := (16, [some (.ref 16), some (.int x1)], [])) rfl (tX4_advance (d + 0) n I J rv sp 19 w nw o1899 eo1899) (fun v h hq => ?_)
      obtain ⟨rfl, rfl⟩ := hq
      refine mm_T.seg (f' := (20, [some (.ref 16), some (.int x1)], [(.int (x1 + 1)), (.ref 16)])) (h' := (107, o1899.1, o1899.2, mm_rf rv sp 19 w nw)) 4 rfl ?_
      obtain ⟨o1900, eo1900, e⟩ := mm_bind e
      refine mm_T.call (t := 56) (as := [(.ref 16), (.int (x1 + 1))]) (f' := (23, [some (.ref 16), some (.int x1)], [])) rfl (mm_T.deep (hrec (x1 + 1) o1899.1 o1899.2 rv sp 19 w nw (Or.inr rfl) o1900 eo1900) (by omega)) (fun v h hq => ?_)
      obtain ⟨rfl, rfl⟩ := hq
      refine mm_T.br (c := o1900.1 = 0) (a := ((26, [some (.ref 16), some (.int x1)], []), (107, o1900.2.1, o1900.2.2, mm_rf rv sp 19 w nw))) (b := ((28, [some (.ref 16), some (.int x1)], []), (107, o1900.2.1, o1900.2.2, mm_rf rv sp 19 w nw))) rfl (fun h1901 => ?_) (fun h1901 => ?_)
      · rw [if_pos h1901] at e
        refine mm_T.seg (f' := (27, [some (.ref 16), some (.int x1)], [(.int 0)])) (h' := (107, o1900.2.1, o1900.2.2, mm_rf rv sp 19 w nw)) 1 rfl ?_
        cases e
        exact mm_T.ret rfl ⟨rfl, rfl⟩
      · rw [if_neg h1901] at e
        refine mm_T.seg (f' := (32, [some (.ref 16), some (.int x1)], [(.ref 19)])) (h' := (107, o1900.2.1, o1900.2.2, mm_rf rv sp 19 w nw)) 2 rfl ?_
        refine mm_T.seg (f' := (37, [some (.ref 16), some (.int x1)], [(.int (-7)), (.ref (19 + 1))])) (h' := (107, o1900.2.1, o1900.2.2, mm_rf rv sp 19 w nw)) 2 rfl ?_
        obtain ⟨o1902, eo1902, e⟩ := mm_bind e
        refine mm_T.call (t := 2) (as := [(.ref (19 + 1)), (.int (-7))]) (f' := (40, [some (.ref 16), some (.int x1)], [])) rfl (tX0_add (d + 4) (-7) (19 + 1) o1900.2.1 o1900.2.2 rv sp 19 w nw (Or.inr rfl) o1902 eo1902) (fun v h hq => ?_)
        obtain ⟨rfl, rfl⟩ := hq
        refine mm_T.seg (f' := (41, [some (.ref 16), some (.int x1)], [(.int 1)])) (h' := (107, o1902, o1900.2.2, mm_rf rv sp 19 w nw)) 1 rfl ?_
        cases e
        exact mm_T.ret rfl ⟨rfl, rfl⟩
    · rw [if_neg h1898] at e
      refine mm_T.seg (f' := (8, [some (.ref 16), some (.int x1)], [(.int 2), (.ref 16)])) (h' := (107, I, J, mm_rf rv sp 19 w nw)) 2 rfl ?_
      obtain ⟨g244, hg244⟩ : ∃ z, fX4_refuse 2 I = z := ⟨_, rfl⟩
      try rw [hg244] at e
      refine mm_T.call (t := 30) (as := [(.ref 16), (.int 2)]) (f' := (11, [some (.ref 16), some (.int x1)], [])) rfl (tX4_refuse (d + 4) 2 I J rv sp 19 w nw g244 hg244) (fun v h hq => ?_)
      obtain ⟨rfl, rfl⟩ := hq
      by_cases h1903 : g244.1 = 0 ∨ g244.1 = 1
      case neg => rw [if_neg h1903] at e; cases e
      rw [if_pos h1903] at e
      cases e
      first | exact mm_T.retZ (v := some (.int g244.1)) rfl h1903 ⟨rfl, rfl⟩ | exact mm_T.retZ (v := some (.int out)) rfl h1903 ⟨rfl, rfl⟩
set_option maxRecDepth 100000 in
set_option maxHeartbeats 4000000 in
theorem tbX4_readOne_J68 (d n : Nat) (rec : Int32 → (Nat → Nat → Int32) → (Nat → Nat → Int64) → Nat → Option (Int32 × (Nat → Nat → Int32) × (Nat → Nat → Int64))) (hrec : ∀ (x1 : Int32) (I : Nat → Nat → Int32) (J : Nat → Nat → Int64) (rv sp rr w nw : Nat), (rr = 3 ∨ rr = 19) → ∀ (out : Int32 × (Nat → Nat → Int32) × (Nat → Nat → Int64)), rec x1 I J rr = some out → mm_T none d 56 (mm_ent 56 [(.ref 16), (.int x1)]) (107, I, J, mm_rf rv sp rr w nw) (fun v h => v = some (.int out.1) ∧ h = (107, out.2.1, out.2.2, mm_rf rv sp rr w nw))) (y1 : Int32) (u0 : Int32) (I : Nat → Nat → Int32) (J : Nat → Nat → Int64) (rv sp rr w nw : Nat) (hrr : rr = 3 ∨ rr = 19) (out : Int32 × (Nat → Nat → Int32) × (Nat → Nat → Int64)) (e : fX4_readOne_J68 n rec y1 u0 I J rr = some out) : mm_T none (d + 11) 56 (68, [some (.ref 16), some (.int y1), none], [(.int u0)]) (107, I, J, mm_rf rv sp rr w nw) (fun v h => v = some (.int out.1) ∧ h = (107, out.2.1, out.2.2, mm_rf rv sp rr w nw)) := by
  rcases hrr with rfl | rfl
  · unfold fX4_readOne_J68 at e
    refine mm_T.seg (f' := (70, [some (.ref 16), some (.int y1), some (.int u0)], [(.int u0)])) (h' := (107, I, J, mm_rf rv sp 3 w nw)) 2 rfl ?_
    refine mm_T.br (c := u0 = 0) (a := ((73, [some (.ref 16), some (.int y1), some (.int u0)], []), (107, I, J, mm_rf rv sp 3 w nw))) (b := ((75, [some (.ref 16), some (.int y1), some (.int u0)], []), (107, I, J, mm_rf rv sp 3 w nw))) rfl (fun h1893 => ?_) (fun h1893 => ?_)
    · rw [if_pos h1893] at e
      refine mm_T.seg (f' := (74, [some (.ref 16), some (.int y1), some (.int u0)], [(.int 1)])) (h' := (107, I, J, mm_rf rv sp 3 w nw)) 1 rfl ?_
      cases e
      exact mm_T.ret rfl ⟨rfl, rfl⟩
    · rw [if_neg h1893] at e
      refine mm_T.seg (f' := (76, [some (.ref 16), some (.int y1), some (.int u0)], [(.ref 16)])) (h' := (107, I, J, mm_rf rv sp 3 w nw)) 1 rfl ?_
      obtain ⟨o1894, eo1894, e⟩ := mm_bind e
      refine mm_T.call (t := 34) (as := [(.ref 16)]) (f' := (79, [some (.ref 16), some (.int y1), some (.int u0)], [])) rfl (tX4_advance (d + 6) n I J rv sp 3 w nw o1894 eo1894) (fun v h hq => ?_)
      obtain ⟨rfl, rfl⟩ := hq
      refine mm_T.seg (f' := (81, [some (.ref 16), some (.int y1), some (.int u0)], [(.int y1), (.ref 16)])) (h' := (107, o1894.1, o1894.2, mm_rf rv sp 3 w nw)) 2 rfl ?_
      obtain ⟨o1895, eo1895, e⟩ := mm_bind e
      refine mm_T.call (t := 58) (as := [(.ref 16), (.int y1)]) (f' := (84, [some (.ref 16), some (.int y1), some (.int u0)], [])) rfl (mm_T.deep (tX4_readSum d n rec hrec y1 o1894.1 o1894.2 rv sp 3 w nw (Or.inl rfl) o1895 eo1895) (by omega)) (fun v h hq => ?_)
      obtain ⟨rfl, rfl⟩ := hq
      refine mm_T.br (c := o1895.1 = 0) (a := ((87, [some (.ref 16), some (.int y1), some (.int u0)], []), (107, o1895.2.1, o1895.2.2, mm_rf rv sp 3 w nw))) (b := ((89, [some (.ref 16), some (.int y1), some (.int u0)], []), (107, o1895.2.1, o1895.2.2, mm_rf rv sp 3 w nw))) rfl (fun h1896 => ?_) (fun h1896 => ?_)
      · rw [if_pos h1896] at e
        refine mm_T.seg (f' := (88, [some (.ref 16), some (.int y1), some (.int u0)], [(.int 0)])) (h' := (107, o1895.2.1, o1895.2.2, mm_rf rv sp 3 w nw)) 1 rfl ?_
        cases e
        exact mm_T.ret rfl ⟨rfl, rfl⟩
      · rw [if_neg h1896] at e
        refine mm_T.seg (f' := (93, [some (.ref 16), some (.int y1), some (.int u0)], [(.ref 3)])) (h' := (107, o1895.2.1, o1895.2.2, mm_rf rv sp 3 w nw)) 2 rfl ?_
        refine mm_T.seg (f' := (97, [some (.ref 16), some (.int y1), some (.int u0)], [(.int u0), (.ref (3 + 1))])) (h' := (107, o1895.2.1, o1895.2.2, mm_rf rv sp 3 w nw)) 2 rfl ?_
        obtain ⟨o1897, eo1897, e⟩ := mm_bind e
        refine mm_T.call (t := 2) (as := [(.ref (3 + 1)), (.int u0)]) (f' := (100, [some (.ref 16), some (.int y1), some (.int u0)], [])) rfl (tX0_add (d + 10) u0 (3 + 1) o1895.2.1 o1895.2.2 rv sp 3 w nw (Or.inl rfl) o1897 eo1897) (fun v h hq => ?_)
        obtain ⟨rfl, rfl⟩ := hq
        refine mm_T.seg (f' := (101, [some (.ref 16), some (.int y1), some (.int u0)], [(.int 1)])) (h' := (107, o1897, o1895.2.2, mm_rf rv sp 3 w nw)) 1 rfl ?_
        cases e
        exact mm_T.ret rfl ⟨rfl, rfl⟩
  · unfold fX4_readOne_J68 at e
    refine mm_T.seg (f' := (70, [some (.ref 16), some (.int y1), some (.int u0)], [(.int u0)])) (h' := (107, I, J, mm_rf rv sp 19 w nw)) 2 rfl ?_
    refine mm_T.br (c := u0 = 0) (a := ((73, [some (.ref 16), some (.int y1), some (.int u0)], []), (107, I, J, mm_rf rv sp 19 w nw))) (b := ((75, [some (.ref 16), some (.int y1), some (.int u0)], []), (107, I, J, mm_rf rv sp 19 w nw))) rfl (fun h1893 => ?_) (fun h1893 => ?_)
    · rw [if_pos h1893] at e
      refine mm_T.seg (f' := (74, [some (.ref 16), some (.int y1), some (.int u0)], [(.int 1)])) (h' := (107, I, J, mm_rf rv sp 19 w nw)) 1 rfl ?_
      cases e
      exact mm_T.ret rfl ⟨rfl, rfl⟩
    · rw [if_neg h1893] at e
      refine mm_T.seg (f' := (76, [some (.ref 16), some (.int y1), some (.int u0)], [(.ref 16)])) (h' := (107, I, J, mm_rf rv sp 19 w nw)) 1 rfl ?_
      obtain ⟨o1894, eo1894, e⟩ := mm_bind e
      refine mm_T.call (t := 34) (as := [(.ref 16)]) (f' := (79, [some (.ref 16), some (.int y1), some (.int u0)], [])) rfl (tX4_advance (d + 6) n I J rv sp 19 w nw o1894 eo1894) (fun v h hq => ?_)
      obtain ⟨rfl, rfl⟩ := hq
      refine mm_T.seg (f' := (81, [some (.ref 16), some (.int y1), some (.int u0)], [(.int y1), (.ref 16)])) (h' := (107, o1894.1, o1894.2, mm_rf rv sp 19 w nw)) 2 rfl ?_
      obtain ⟨o1895, eo1895, e⟩ := mm_bind e
      refine mm_T.call (t := 58) (as := [(.ref 16), (.int y1)]) (f' := (84, [some (.ref 16), some (.int y1), some (.int u0)], [])) rfl (mm_T.deep (tX4_readSum d n rec hrec y1 o1894.1 o1894.2 rv sp 19 w nw (Or.inr rfl) o1895 eo1895) (by omega)) (fun v h hq => ?_)
      obtain ⟨rfl, rfl⟩ := hq
      refine mm_T.br (c := o1895.1 = 0) (a := ((87, [some (.ref 16), some (.int y1), some (.int u0)], []), (107, o1895.2.1, o1895.2.2, mm_rf rv sp 19 w nw))) (b := ((89, [some (.ref 16), some (.int y1), some (.int u0)], []), (107, o1895.2.1, o1895.2.2, mm_rf rv sp 19 w nw))) rfl (fun h1896 => ?_) (fun h1896 => ?_)
      · rw [if_pos h1896] at e
        refine mm_T.seg (f' := (88, [some (.ref 16), some (.int y1), some (.int u0)], [(.int 0)])) (h' := (107, o1895.2.1, o1895.2.2, mm_rf rv sp 19 w nw)) 1 rfl ?_
        cases e
        exact mm_T.ret rfl ⟨rfl, rfl⟩
      · rw [if_neg h1896] at e
        refine mm_T.seg (f' := (93, [some (.ref 16), some (.int y1), some (.int u0)], [(.ref 19)])) (h' := (107, o1895.2.1, o1895.2.2, mm_rf rv sp 19 w nw)) 2 rfl ?_
        refine mm_T.seg (f' := (97, [some (.ref 16), some (.int y1), some (.int u0)], [(.int u0), (.ref (19 + 1))])) (h' := (107, o1895.2.1, o1895.2.2, mm_rf rv sp 19 w nw)) 2 rfl ?_
        obtain ⟨o1897, eo1897, e⟩ := mm_bind e
        refine mm_T.call (t := 2) (as := [(.ref (19 + 1)), (.int u0)]) (f' := (100, [some (.ref 16), some (.int y1), some (.int u0)], [])) rfl (tX0_add (d + 10) u0 (19 + 1) o1895.2.1 o1895.2.2 rv sp 19 w nw (Or.inr rfl) o1897 eo1897) (fun v h hq => ?_)
        obtain ⟨rfl, rfl⟩ := hq
        refine mm_T.seg (f' := (101, [some (.ref 16), some (.int y1), some (.int u0)], [(.int 1)])) (h' := (107, o1897, o1895.2.2, mm_rf rv sp 19 w nw)) 1 rfl ?_
        cases e
        exact mm_T.ret rfl ⟨rfl, rfl⟩
set_option maxRecDepth 100000 in
set_option maxHeartbeats 4000000 in
theorem tX4_readOne_B (d n : Nat) (rec : Int32 → (Nat → Nat → Int32) → (Nat → Nat → Int64) → Nat → Option (Int32 × (Nat → Nat → Int32) × (Nat → Nat → Int64))) (hrec : ∀ (x1 : Int32) (I : Nat → Nat → Int32) (J : Nat → Nat → Int64) (rv sp rr w nw : Nat), (rr = 3 ∨ rr = 19) → ∀ (out : Int32 × (Nat → Nat → Int32) × (Nat → Nat → Int64)), rec x1 I J rr = some out → mm_T none d 56 (mm_ent 56 [(.ref 16), (.int x1)]) (107, I, J, mm_rf rv sp rr w nw) (fun v h => v = some (.int out.1) ∧ h = (107, out.2.1, out.2.2, mm_rf rv sp rr w nw))) (x1 : Int32) (I : Nat → Nat → Int32) (J : Nat → Nat → Int64) (rv sp rr w nw : Nat) (hrr : rr = 3 ∨ rr = 19) (out : Int32 × (Nat → Nat → Int32) × (Nat → Nat → Int64)) (e : fX4_readOne_B n rec x1 I J rr = some out) : mm_T none (d + 11) 56 (mm_ent 56 [(.ref 16), (.int x1)]) (107, I, J, mm_rf rv sp rr w nw) (fun v h => v = some (.int out.1) ∧ h = (107, out.2.1, out.2.2, mm_rf rv sp rr w nw)) := by
  rcases hrr with rfl | rfl
  · unfold fX4_readOne_B at e
    refine mm_T.seg (f' := (3, [some (.ref 16), some (.int x1), none], [(.int 14), (.ref 16)])) (h' := (107, I, J, mm_rf rv sp 3 w nw)) 2 rfl ?_
    obtain ⟨g239, hg239⟩ : ∃ z, fX4_isWord 14 I = z := ⟨_, rfl⟩
    try rw [hg239] at e
    refine mm_T.call (t := 38) (as := [(.ref 16), (.int 14)]) (f' := (6, [some (.ref 16), some (.int x1), none], [])) rfl (tX4_isWord (d + 10) 14 I J rv sp 3 w nw g239 hg239) (fun v h hq => ?_)
    obtain ⟨rfl, rfl⟩ := hq
    refine mm_T.br (c := g239 = 0) (a := ((15, [some (.ref 16), some (.int x1), none], []), (107, I, J, mm_rf rv sp 3 w nw))) (b := ((9, [some (.ref 16), some (.int x1), none], []), (107, I, J, mm_rf rv sp 3 w nw))) rfl (fun h1676 => ?_) (fun h1676 => ?_)
    · rw [if_pos h1676] at e
      refine mm_T.seg (f' := (17, [some (.ref 16), some (.int x1), none], [(.int x1), (.ref 16)])) (h' := (107, I, J, mm_rf rv sp 3 w nw)) 2 rfl ?_
      obtain ⟨o1885, eo1885, e⟩ := mm_bind e
      refine mm_T.call (t := 58) (as := [(.ref 16), (.int x1)]) (f' := (20, [some (.ref 16), some (.int x1), none], [])) rfl (mm_T.deep (tX4_readSum d n rec hrec x1 I J rv sp 3 w nw (Or.inl rfl) o1885 eo1885) (by omega)) (fun v h hq => ?_)
      obtain ⟨rfl, rfl⟩ := hq
      refine mm_T.br (c := o1885.1 = 0) (a := ((23, [some (.ref 16), some (.int x1), none], []), (107, o1885.2.1, o1885.2.2, mm_rf rv sp 3 w nw))) (b := ((25, [some (.ref 16), some (.int x1), none], []), (107, o1885.2.1, o1885.2.2, mm_rf rv sp 3 w nw))) rfl (fun h1886 => ?_) (fun h1886 => ?_)
      · rw [if_pos h1886] at e
        refine mm_T.seg (f' := (24, [some (.ref 16), some (.int x1), none], [(.int 0)])) (h' := (107, o1885.2.1, o1885.2.2, mm_rf rv sp 3 w nw)) 1 rfl ?_
        cases e
        exact mm_T.ret rfl ⟨rfl, rfl⟩
      · rw [if_neg h1886] at e
        refine mm_T.seg (f' := (28, [some (.ref 16), some (.int x1), none], [(.int 60), (.ref 16)])) (h' := (107, o1885.2.1, o1885.2.2, mm_rf rv sp 3 w nw)) 2 rfl ?_
        obtain ⟨o1887, eo1887, e⟩ := mm_bind e
        refine mm_T.call (t := 39) (as := [(.ref 16), (.int 60)]) (f' := (31, [some (.ref 16), some (.int x1), none], [])) rfl (tX4_isSign (d + 9) 60 o1885.2.1 o1885.2.2 rv sp 3 w nw o1887 eo1887) (fun v h hq => ?_)
        obtain ⟨rfl, rfl⟩ := hq
        refine mm_T.br (c := o1887 = 0) (a := ((39, [some (.ref 16), some (.int x1), none], []), (107, o1885.2.1, o1885.2.2, mm_rf rv sp 3 w nw))) (b := ((34, [some (.ref 16), some (.int x1), none], []), (107, o1885.2.1, o1885.2.2, mm_rf rv sp 3 w nw))) rfl (fun h1888 => ?_) (fun h1888 => ?_)
        · rw [if_pos h1888] at e
          refine mm_T.seg (f' := (42, [some (.ref 16), some (.int x1), none], [(.int 62), (.ref 16)])) (h' := (107, o1885.2.1, o1885.2.2, mm_rf rv sp 3 w nw)) 2 rfl ?_
          obtain ⟨o1889, eo1889, e⟩ := mm_bind e
          refine mm_T.call (t := 39) (as := [(.ref 16), (.int 62)]) (f' := (45, [some (.ref 16), some (.int x1), none], [])) rfl (tX4_isSign (d + 9) 62 o1885.2.1 o1885.2.2 rv sp 3 w nw o1889 eo1889) (fun v h hq => ?_)
          obtain ⟨rfl, rfl⟩ := hq
          refine mm_T.br (c := o1889 = 0) (a := ((53, [some (.ref 16), some (.int x1), none], []), (107, o1885.2.1, o1885.2.2, mm_rf rv sp 3 w nw))) (b := ((48, [some (.ref 16), some (.int x1), none], []), (107, o1885.2.1, o1885.2.2, mm_rf rv sp 3 w nw))) rfl (fun h1890 => ?_) (fun h1890 => ?_)
          · rw [if_pos h1890] at e
            refine mm_T.seg (f' := (56, [some (.ref 16), some (.int x1), none], [(.int 61), (.ref 16)])) (h' := (107, o1885.2.1, o1885.2.2, mm_rf rv sp 3 w nw)) 2 rfl ?_
            obtain ⟨o1891, eo1891, e⟩ := mm_bind e
            refine mm_T.call (t := 39) (as := [(.ref 16), (.int 61)]) (f' := (59, [some (.ref 16), some (.int x1), none], [])) rfl (tX4_isSign (d + 9) 61 o1885.2.1 o1885.2.2 rv sp 3 w nw o1891 eo1891) (fun v h hq => ?_)
            obtain ⟨rfl, rfl⟩ := hq
            refine mm_T.br (c := o1891 = 0) (a := ((67, [some (.ref 16), some (.int x1), none], []), (107, o1885.2.1, o1885.2.2, mm_rf rv sp 3 w nw))) (b := ((62, [some (.ref 16), some (.int x1), none], []), (107, o1885.2.1, o1885.2.2, mm_rf rv sp 3 w nw))) rfl (fun h1892 => ?_) (fun h1892 => ?_)
            · rw [if_pos h1892] at e
              refine mm_T.seg (f' := (68, [some (.ref 16), some (.int x1), none], [(.int 0)])) (h' := (107, o1885.2.1, o1885.2.2, mm_rf rv sp 3 w nw)) 1 rfl ?_
              refine mm_T.mask [true, true, false] ?_
              exact tbX4_readOne_J68 d n rec hrec x1 0 o1885.2.1 o1885.2.2 rv sp 3 w nw (Or.inl rfl) out e
            · rw [if_neg h1892] at e
              refine mm_T.seg (f' := (68, [some (.ref 16), some (.int x1), none], [(.int (-12))])) (h' := (107, o1885.2.1, o1885.2.2, mm_rf rv sp 3 w nw)) 2 rfl ?_
              refine mm_T.mask [true, true, false] ?_
              exact tbX4_readOne_J68 d n rec hrec x1 (-12) o1885.2.1 o1885.2.2 rv sp 3 w nw (Or.inl rfl) out e
          · rw [if_neg h1890] at e
            refine mm_T.seg (f' := (68, [some (.ref 16), some (.int x1), none], [(.int (-11))])) (h' := (107, o1885.2.1, o1885.2.2, mm_rf rv sp 3 w nw)) 2 rfl ?_
            refine mm_T.mask [true, true, false] ?_
            exact tbX4_readOne_J68 d n rec hrec x1 (-11) o1885.2.1 o1885.2.2 rv sp 3 w nw (Or.inl rfl) out e
        · rw [if_neg h1888] at e
          refine mm_T.seg (f' := (68, [some (.ref 16), some (.int x1), none], [(.int (-10))])) (h' := (107, o1885.2.1, o1885.2.2, mm_rf rv sp 3 w nw)) 2 rfl ?_
          refine mm_T.mask [true, true, false] ?_
          exact tbX4_readOne_J68 d n rec hrec x1 (-10) o1885.2.1 o1885.2.2 rv sp 3 w nw (Or.inl rfl) out e
    · rw [if_neg h1676] at e
      refine mm_T.seg (f' := (11, [some (.ref 16), some (.int x1), none], [(.int x1), (.ref 16)])) (h' := (107, I, J, mm_rf rv sp 3 w nw)) 2 rfl ?_
      obtain ⟨o1904, eo1904, e⟩ := mm_bind e
      refine mm_T.call (t := 57) (as := [(.ref 16), (.int x1)]) (f' := (14, [some (.ref 16), some (.int x1), none], [])) rfl (mm_T.deep (tX4_readNot d n rec hrec x1 I J rv sp 3 w nw (Or.inl rfl) o1904 eo1904) (by omega)) (fun v h hq => ?_)
      obtain ⟨rfl, rfl⟩ := hq
      by_cases h1905 : o1904.1 = 0 ∨ o1904.1 = 1
      case neg => rw [if_neg h1905] at e; cases e
      rw [if_pos h1905] at e
      cases e
      first | exact mm_T.retZ (v := some (.int o1904.1)) rfl h1905 ⟨rfl, rfl⟩ | exact mm_T.retZ (v := some (.int out)) rfl h1905 ⟨rfl, rfl⟩
  · unfold fX4_readOne_B at e
    refine mm_T.seg (f' := (3, [some (.ref 16), some (.int x1), none], [(.int 14), (.ref 16)])) (h' := (107, I, J, mm_rf rv sp 19 w nw)) 2 rfl ?_
    obtain ⟨g239, hg239⟩ : ∃ z, fX4_isWord 14 I = z := ⟨_, rfl⟩
    try rw [hg239] at e
    refine mm_T.call (t := 38) (as := [(.ref 16), (.int 14)]) (f' := (6, [some (.ref 16), some (.int x1), none], [])) rfl (tX4_isWord (d + 10) 14 I J rv sp 19 w nw g239 hg239) (fun v h hq => ?_)
    obtain ⟨rfl, rfl⟩ := hq
    refine mm_T.br (c := g239 = 0) (a := ((15, [some (.ref 16), some (.int x1), none], []), (107, I, J, mm_rf rv sp 19 w nw))) (b := ((9, [some (.ref 16), some (.int x1), none], []), (107, I, J, mm_rf rv sp 19 w nw))) rfl (fun h1676 => ?_) (fun h1676 => ?_)
    · rw [if_pos h1676] at e
      refine mm_T.seg (f' := (17, [some (.ref 16), some (.int x1), none], [(.int x1), (.ref 16)])) (h' := (107, I, J, mm_rf rv sp 19 w nw)) 2 rfl ?_
      obtain ⟨o1885, eo1885, e⟩ := mm_bind e
      refine mm_T.call (t := 58) (as := [(.ref 16), (.int x1)]) (f' := (20, [some (.ref 16), some (.int x1), none], [])) rfl (mm_T.deep (tX4_readSum d n rec hrec x1 I J rv sp 19 w nw (Or.inr rfl) o1885 eo1885) (by omega)) (fun v h hq => ?_)
      obtain ⟨rfl, rfl⟩ := hq
      refine mm_T.br (c := o1885.1 = 0) (a := ((23, [some (.ref 16), some (.int x1), none], []), (107, o1885.2.1, o1885.2.2, mm_rf rv sp 19 w nw))) (b := ((25, [some (.ref 16), some (.int x1), none], []), (107, o1885.2.1, o1885.2.2, mm_rf rv sp 19 w nw))) rfl (fun h1886 => ?_) (fun h1886 => ?_)
      · rw [if_pos h1886] at e
        refine mm_T.seg (f' := (24, [some (.ref 16), some (.int x1), none], [(.int 0)])) (h' := (107, o1885.2.1, o1885.2.2, mm_rf rv sp 19 w nw)) 1 rfl ?_
        cases e
        exact mm_T.ret rfl ⟨rfl, rfl⟩
      · rw [if_neg h1886] at e
        refine mm_T.seg (f' := (28, [some (.ref 16), some (.int x1), none], [(.int 60), (.ref 16)])) (h' := (107, o1885.2.1, o1885.2.2, mm_rf rv sp 19 w nw)) 2 rfl ?_
        obtain ⟨o1887, eo1887, e⟩ := mm_bind e
        refine mm_T.call (t := 39) (as := [(.ref 16), (.int 60)]) (f' := (31, [some (.ref 16), some (.int x1), none], [])) rfl (tX4_isSign (d + 9) 60 o1885.2.1 o1885.2.2 rv sp 19 w nw o1887 eo1887) (fun v h hq => ?_)
        obtain ⟨rfl, rfl⟩ := hq
        refine mm_T.br (c := o1887 = 0) (a := ((39, [some (.ref 16), some (.int x1), none], []), (107, o1885.2.1, o1885.2.2, mm_rf rv sp 19 w nw))) (b := ((34, [some (.ref 16), some (.int x1), none], []), (107, o1885.2.1, o1885.2.2, mm_rf rv sp 19 w nw))) rfl (fun h1888 => ?_) (fun h1888 => ?_)
        · rw [if_pos h1888] at e
          refine mm_T.seg (f' := (42, [some (.ref 16), some (.int x1), none], [(.int 62), (.ref 16)])) (h' := (107, o1885.2.1, o1885.2.2, mm_rf rv sp 19 w nw)) 2 rfl ?_
          obtain ⟨o1889, eo1889, e⟩ := mm_bind e
          refine mm_T.call (t := 39) (as := [(.ref 16), (.int 62)]) (f' := (45, [some (.ref 16), some (.int x1), none], [])) rfl (tX4_isSign (d + 9) 62 o1885.2.1 o1885.2.2 rv sp 19 w nw o1889 eo1889) (fun v h hq => ?_)
          obtain ⟨rfl, rfl⟩ := hq
          refine mm_T.br (c := o1889 = 0) (a := ((53, [some (.ref 16), some (.int x1), none], []), (107, o1885.2.1, o1885.2.2, mm_rf rv sp 19 w nw))) (b := ((48, [some (.ref 16), some (.int x1), none], []), (107, o1885.2.1, o1885.2.2, mm_rf rv sp 19 w nw))) rfl (fun h1890 => ?_) (fun h1890 => ?_)
          · rw [if_pos h1890] at e
            refine mm_T.seg (f' := (56, [some (.ref 16), some (.int x1), none], [(.int 61), (.ref 16)])) (h' := (107, o1885.2.1, o1885.2.2, mm_rf rv sp 19 w nw)) 2 rfl ?_
            obtain ⟨o1891, eo1891, e⟩ := mm_bind e
            refine mm_T.call (t := 39) (as := [(.ref 16), (.int 61)]) (f' := (59, [some (.ref 16), some (.int x1), none], [])) rfl (tX4_isSign (d + 9) 61 o1885.2.1 o1885.2.2 rv sp 19 w nw o1891 eo1891) (fun v h hq => ?_)
            obtain ⟨rfl, rfl⟩ := hq
            refine mm_T.br (c := o1891 = 0) (a := ((67, [some (.ref 16), some (.int x1), none], []), (107, o1885.2.1, o1885.2.2, mm_rf rv sp 19 w nw))) (b := ((62, [some (.ref 16), some (.int x1), none], []), (107, o1885.2.1, o1885.2.2, mm_rf rv sp 19 w nw))) rfl (fun h1892 => ?_) (fun h1892 => ?_)
            · rw [if_pos h1892] at e
              refine mm_T.seg (f' := (68, [some (.ref 16), some (.int x1), none], [(.int 0)])) (h' := (107, o1885.2.1, o1885.2.2, mm_rf rv sp 19 w nw)) 1 rfl ?_
              refine mm_T.mask [true, true, false] ?_
              exact tbX4_readOne_J68 d n rec hrec x1 0 o1885.2.1 o1885.2.2 rv sp 19 w nw (Or.inr rfl) out e
            · rw [if_neg h1892] at e
              refine mm_T.seg (f' := (68, [some (.ref 16), some (.int x1), none], [(.int (-12))])) (h' := (107, o1885.2.1, o1885.2.2, mm_rf rv sp 19 w nw)) 2 rfl ?_
              refine mm_T.mask [true, true, false] ?_
              exact tbX4_readOne_J68 d n rec hrec x1 (-12) o1885.2.1 o1885.2.2 rv sp 19 w nw (Or.inr rfl) out e
          · rw [if_neg h1890] at e
            refine mm_T.seg (f' := (68, [some (.ref 16), some (.int x1), none], [(.int (-11))])) (h' := (107, o1885.2.1, o1885.2.2, mm_rf rv sp 19 w nw)) 2 rfl ?_
            refine mm_T.mask [true, true, false] ?_
            exact tbX4_readOne_J68 d n rec hrec x1 (-11) o1885.2.1 o1885.2.2 rv sp 19 w nw (Or.inr rfl) out e
        · rw [if_neg h1888] at e
          refine mm_T.seg (f' := (68, [some (.ref 16), some (.int x1), none], [(.int (-10))])) (h' := (107, o1885.2.1, o1885.2.2, mm_rf rv sp 19 w nw)) 2 rfl ?_
          refine mm_T.mask [true, true, false] ?_
          exact tbX4_readOne_J68 d n rec hrec x1 (-10) o1885.2.1 o1885.2.2 rv sp 19 w nw (Or.inr rfl) out e
    · rw [if_neg h1676] at e
      refine mm_T.seg (f' := (11, [some (.ref 16), some (.int x1), none], [(.int x1), (.ref 16)])) (h' := (107, I, J, mm_rf rv sp 19 w nw)) 2 rfl ?_
      obtain ⟨o1904, eo1904, e⟩ := mm_bind e
      refine mm_T.call (t := 57) (as := [(.ref 16), (.int x1)]) (f' := (14, [some (.ref 16), some (.int x1), none], [])) rfl (mm_T.deep (tX4_readNot d n rec hrec x1 I J rv sp 19 w nw (Or.inr rfl) o1904 eo1904) (by omega)) (fun v h hq => ?_)
      obtain ⟨rfl, rfl⟩ := hq
      by_cases h1905 : o1904.1 = 0 ∨ o1904.1 = 1
      case neg => rw [if_neg h1905] at e; cases e
      rw [if_pos h1905] at e
      cases e
      first | exact mm_T.retZ (v := some (.int o1904.1)) rfl h1905 ⟨rfl, rfl⟩ | exact mm_T.retZ (v := some (.int out)) rfl h1905 ⟨rfl, rfl⟩
theorem tX4_readOne (d n : Nat) : ∀ (q : Nat) (x1 : Int32) (I : Nat → Nat → Int32) (J : Nat → Nat → Int64) (rv sp rr w nw : Nat), (rr = 3 ∨ rr = 19) → ∀ (out : Int32 × (Nat → Nat → Int32) × (Nat → Nat → Int64)), fX4_readOne n q x1 I J rr = some out → mm_T none (d + 11 * q) 56 (mm_ent 56 [(.ref 16), (.int x1)]) (107, I, J, mm_rf rv sp rr w nw) (fun v h => v = some (.int out.1) ∧ h = (107, out.2.1, out.2.2, mm_rf rv sp rr w nw)) := by
  intro q
  induction q with
  | zero =>
    intro x1 I J rv sp rr w nw hrr out e
    rw [fX4_readOne] at e; cases e
  | succ q ih =>
    intro x1 I J rv sp rr w nw hrr out e
    rw [fX4_readOne] at e
    exact tX4_readOne_B (d + 11 * q) n (fX4_readOne n q) ih x1 I J rv sp rr w nw hrr out e
set_option maxRecDepth 100000 in
set_option maxHeartbeats 4000000 in
theorem tX4_readFlood (d n : Nat) (I : Nat → Nat → Int32) (J : Nat → Nat → Int64) (rv sp rr w nw : Nat) (hrr : rr = 3 ∨ rr = 19) (out : Int32 × (Nat → Nat → Int32) × (Nat → Nat → Int64)) (e : fX4_readFlood n I J rr = some out) : mm_T none (d + 6) 52 (mm_ent 52 [(.ref 16)]) (107, I, J, mm_rf rv sp rr w nw) (fun v h => v = some (.int out.1) ∧ h = (107, out.2.1, out.2.2, mm_rf rv sp rr w nw)) := by
  rcases hrr with rfl | rfl
  · unfold fX4_readFlood at e
    refine mm_T.seg (f' := (4, [some (.ref 16), none], [(.int 100), (.int 0), (.ref 16)])) (h' := (107, I, J, mm_rf rv sp 3 w nw)) 3 rfl ?_
    obtain ⟨o1911, eo1911, e⟩ := mm_bind e
    refine mm_T.call (t := 43) (as := [(.ref 16), (.int 0), (.int 100)]) (f' := (7, [some (.ref 16), none], [])) rfl (tX4_passNumber (d + 0) n 0 100 I J rv sp 3 w nw o1911 eo1911) (fun v h hq => ?_)
    obtain ⟨rfl, rfl⟩ := hq
    refine mm_T.seg (f' := (10, [some (.ref 16), some (.int o1911.1)], [(.int (-1)), (.int o1911.1)])) (h' := (107, o1911.2.1, o1911.2.2, mm_rf rv sp 3 w nw)) 3 rfl ?_
    refine mm_T.br (c := o1911.1 = (-1)) (a := ((13, [some (.ref 16), some (.int o1911.1)], []), (107, o1911.2.1, o1911.2.2, mm_rf rv sp 3 w nw))) (b := ((15, [some (.ref 16), some (.int o1911.1)], []), (107, o1911.2.1, o1911.2.2, mm_rf rv sp 3 w nw))) rfl (fun h1912 => ?_) (fun h1912 => ?_)
    · rw [if_pos h1912] at e
      refine mm_T.seg (f' := (14, [some (.ref 16), some (.int o1911.1)], [(.int 0)])) (h' := (107, o1911.2.1, o1911.2.2, mm_rf rv sp 3 w nw)) 1 rfl ?_
      cases e
      exact mm_T.ret rfl ⟨rfl, rfl⟩
    · rw [if_neg h1912] at e
      refine mm_T.seg (f' := (19, [some (.ref 16), some (.int o1911.1)], [(.ref 3)])) (h' := (107, o1911.2.1, o1911.2.2, mm_rf rv sp 3 w nw)) 2 rfl ?_
      refine mm_T.seg (f' := (24, [some (.ref 16), some (.int o1911.1)], [(.ref 16)])) (h' := (107, (mm_up o1911.2.1 3 6 o1911.1), o1911.2.2, mm_rf rv sp 3 w nw)) 3 rfl ?_
      obtain ⟨o1913, eo1913, e⟩ := mm_bind e
      refine mm_T.call (t := 41) (as := [(.ref 16)]) (f' := (27, [some (.ref 16), some (.int o1911.1)], [])) rfl (tX4_passEndOfLine (d + 0) n (mm_up o1911.2.1 3 6 o1911.1) o1911.2.2 rv sp 3 w nw o1913 eo1913) (fun v h hq => ?_)
      obtain ⟨rfl, rfl⟩ := hq
      by_cases h1914 : o1913.1 = 0 ∨ o1913.1 = 1
      case neg => rw [if_neg h1914] at e; cases e
      rw [if_pos h1914] at e
      cases e
      first | exact mm_T.retZ (v := some (.int o1913.1)) rfl h1914 ⟨rfl, rfl⟩ | exact mm_T.retZ (v := some (.int out)) rfl h1914 ⟨rfl, rfl⟩
  · unfold fX4_readFlood at e
    refine mm_T.seg (f' := (4, [some (.ref 16), none], [(.int 100), (.int 0), (.ref 16)])) (h' := (107, I, J, mm_rf rv sp 19 w nw)) 3 rfl ?_
    obtain ⟨o1911, eo1911, e⟩ := mm_bind e
    refine mm_T.call (t := 43) (as := [(.ref 16), (.int 0), (.int 100)]) (f' := (7, [some (.ref 16), none], [])) rfl (tX4_passNumber (d + 0) n 0 100 I J rv sp 19 w nw o1911 eo1911) (fun v h hq => ?_)
    obtain ⟨rfl, rfl⟩ := hq
    refine mm_T.seg (f' := (10, [some (.ref 16), some (.int o1911.1)], [(.int (-1)), (.int o1911.1)])) (h' := (107, o1911.2.1, o1911.2.2, mm_rf rv sp 19 w nw)) 3 rfl ?_
    refine mm_T.br (c := o1911.1 = (-1)) (a := ((13, [some (.ref 16), some (.int o1911.1)], []), (107, o1911.2.1, o1911.2.2, mm_rf rv sp 19 w nw))) (b := ((15, [some (.ref 16), some (.int o1911.1)], []), (107, o1911.2.1, o1911.2.2, mm_rf rv sp 19 w nw))) rfl (fun h1912 => ?_) (fun h1912 => ?_)
    · rw [if_pos h1912] at e
      refine mm_T.seg (f' := (14, [some (.ref 16), some (.int o1911.1)], [(.int 0)])) (h' := (107, o1911.2.1, o1911.2.2, mm_rf rv sp 19 w nw)) 1 rfl ?_
      cases e
      exact mm_T.ret rfl ⟨rfl, rfl⟩
    · rw [if_neg h1912] at e
      refine mm_T.seg (f' := (19, [some (.ref 16), some (.int o1911.1)], [(.ref 19)])) (h' := (107, o1911.2.1, o1911.2.2, mm_rf rv sp 19 w nw)) 2 rfl ?_
      refine mm_T.seg (f' := (24, [some (.ref 16), some (.int o1911.1)], [(.ref 16)])) (h' := (107, (mm_up o1911.2.1 19 6 o1911.1), o1911.2.2, mm_rf rv sp 19 w nw)) 3 rfl ?_
      obtain ⟨o1913, eo1913, e⟩ := mm_bind e
      refine mm_T.call (t := 41) (as := [(.ref 16)]) (f' := (27, [some (.ref 16), some (.int o1911.1)], [])) rfl (tX4_passEndOfLine (d + 0) n (mm_up o1911.2.1 19 6 o1911.1) o1911.2.2 rv sp 19 w nw o1913 eo1913) (fun v h hq => ?_)
      obtain ⟨rfl, rfl⟩ := hq
      by_cases h1914 : o1913.1 = 0 ∨ o1913.1 = 1
      case neg => rw [if_neg h1914] at e; cases e
      rw [if_pos h1914] at e
      cases e
      first | exact mm_T.retZ (v := some (.int o1913.1)) rfl h1914 ⟨rfl, rfl⟩ | exact mm_T.retZ (v := some (.int out)) rfl h1914 ⟨rfl, rfl⟩
set_option maxRecDepth 100000 in
set_option maxHeartbeats 4000000 in
theorem tX4_readDraw (d n : Nat) (I : Nat → Nat → Int32) (J : Nat → Nat → Int64) (rv sp rr w nw : Nat) (hrr : rr = 3 ∨ rr = 19) (out : Int32 × (Nat → Nat → Int32) × (Nat → Nat → Int64)) (e : fX4_readDraw n I J rr = some out) : mm_T none (d + 6) 53 (mm_ent 53 [(.ref 16)]) (107, I, J, mm_rf rv sp rr w nw) (fun v h => v = some (.int out.1) ∧ h = (107, out.2.1, out.2.2, mm_rf rv sp rr w nw)) := by
  rcases hrr with rfl | rfl
  · unfold fX4_readDraw at e
    refine mm_T.seg (f' := (5, [some (.ref 16), none], [(.int 999), (.int 0), (.ref 16)])) (h' := (107, I, J, mm_rf rv sp 3 w nw)) 3 rfl ?_
    obtain ⟨o1917, eo1917, e⟩ := mm_bind e
    refine mm_T.call (t := 43) (as := [(.ref 16), (.int 0), (.int 999)]) (f' := (8, [some (.ref 16), none], [])) rfl (tX4_passNumber (d + 0) n 0 999 I J rv sp 3 w nw o1917 eo1917) (fun v h hq => ?_)
    obtain ⟨rfl, rfl⟩ := hq
    refine mm_T.seg (f' := (11, [some (.ref 16), some (.int o1917.1)], [(.int (-1)), (.int o1917.1)])) (h' := (107, o1917.2.1, o1917.2.2, mm_rf rv sp 3 w nw)) 3 rfl ?_
    refine mm_T.br (c := o1917.1 = (-1)) (a := ((14, [some (.ref 16), some (.int o1917.1)], []), (107, o1917.2.1, o1917.2.2, mm_rf rv sp 3 w nw))) (b := ((16, [some (.ref 16), some (.int o1917.1)], []), (107, o1917.2.1, o1917.2.2, mm_rf rv sp 3 w nw))) rfl (fun h1918 => ?_) (fun h1918 => ?_)
    · rw [if_pos h1918] at e
      refine mm_T.seg (f' := (15, [some (.ref 16), some (.int o1917.1)], [(.int 0)])) (h' := (107, o1917.2.1, o1917.2.2, mm_rf rv sp 3 w nw)) 1 rfl ?_
      cases e
      exact mm_T.ret rfl ⟨rfl, rfl⟩
    · rw [if_neg h1918] at e
      refine mm_T.seg (f' := (20, [some (.ref 16), some (.int o1917.1)], [(.ref 3)])) (h' := (107, o1917.2.1, o1917.2.2, mm_rf rv sp 3 w nw)) 2 rfl ?_
      refine mm_T.seg (f' := (25, [some (.ref 16), some (.int o1917.1)], [(.ref 16)])) (h' := (107, (mm_up o1917.2.1 3 7 o1917.1), o1917.2.2, mm_rf rv sp 3 w nw)) 3 rfl ?_
      obtain ⟨o1919, eo1919, e⟩ := mm_bind e
      refine mm_T.call (t := 41) (as := [(.ref 16)]) (f' := (28, [some (.ref 16), some (.int o1917.1)], [])) rfl (tX4_passEndOfLine (d + 0) n (mm_up o1917.2.1 3 7 o1917.1) o1917.2.2 rv sp 3 w nw o1919 eo1919) (fun v h hq => ?_)
      obtain ⟨rfl, rfl⟩ := hq
      by_cases h1920 : o1919.1 = 0 ∨ o1919.1 = 1
      case neg => rw [if_neg h1920] at e; cases e
      rw [if_pos h1920] at e
      cases e
      first | exact mm_T.retZ (v := some (.int o1919.1)) rfl h1920 ⟨rfl, rfl⟩ | exact mm_T.retZ (v := some (.int out)) rfl h1920 ⟨rfl, rfl⟩
  · unfold fX4_readDraw at e
    refine mm_T.seg (f' := (5, [some (.ref 16), none], [(.int 999), (.int 0), (.ref 16)])) (h' := (107, I, J, mm_rf rv sp 19 w nw)) 3 rfl ?_
    obtain ⟨o1917, eo1917, e⟩ := mm_bind e
    refine mm_T.call (t := 43) (as := [(.ref 16), (.int 0), (.int 999)]) (f' := (8, [some (.ref 16), none], [])) rfl (tX4_passNumber (d + 0) n 0 999 I J rv sp 19 w nw o1917 eo1917) (fun v h hq => ?_)
    obtain ⟨rfl, rfl⟩ := hq
    refine mm_T.seg (f' := (11, [some (.ref 16), some (.int o1917.1)], [(.int (-1)), (.int o1917.1)])) (h' := (107, o1917.2.1, o1917.2.2, mm_rf rv sp 19 w nw)) 3 rfl ?_
    refine mm_T.br (c := o1917.1 = (-1)) (a := ((14, [some (.ref 16), some (.int o1917.1)], []), (107, o1917.2.1, o1917.2.2, mm_rf rv sp 19 w nw))) (b := ((16, [some (.ref 16), some (.int o1917.1)], []), (107, o1917.2.1, o1917.2.2, mm_rf rv sp 19 w nw))) rfl (fun h1918 => ?_) (fun h1918 => ?_)
    · rw [if_pos h1918] at e
      refine mm_T.seg (f' := (15, [some (.ref 16), some (.int o1917.1)], [(.int 0)])) (h' := (107, o1917.2.1, o1917.2.2, mm_rf rv sp 19 w nw)) 1 rfl ?_
      cases e
      exact mm_T.ret rfl ⟨rfl, rfl⟩
    · rw [if_neg h1918] at e
      refine mm_T.seg (f' := (20, [some (.ref 16), some (.int o1917.1)], [(.ref 19)])) (h' := (107, o1917.2.1, o1917.2.2, mm_rf rv sp 19 w nw)) 2 rfl ?_
      refine mm_T.seg (f' := (25, [some (.ref 16), some (.int o1917.1)], [(.ref 16)])) (h' := (107, (mm_up o1917.2.1 19 7 o1917.1), o1917.2.2, mm_rf rv sp 19 w nw)) 3 rfl ?_
      obtain ⟨o1919, eo1919, e⟩ := mm_bind e
      refine mm_T.call (t := 41) (as := [(.ref 16)]) (f' := (28, [some (.ref 16), some (.int o1917.1)], [])) rfl (tX4_passEndOfLine (d + 0) n (mm_up o1917.2.1 19 7 o1917.1) o1917.2.2 rv sp 19 w nw o1919 eo1919) (fun v h hq => ?_)
      obtain ⟨rfl, rfl⟩ := hq
      by_cases h1920 : o1919.1 = 0 ∨ o1919.1 = 1
      case neg => rw [if_neg h1920] at e; cases e
      rw [if_pos h1920] at e
      cases e
      first | exact mm_T.retZ (v := some (.int o1919.1)) rfl h1920 ⟨rfl, rfl⟩ | exact mm_T.retZ (v := some (.int out)) rfl h1920 ⟨rfl, rfl⟩
set_option maxRecDepth 100000 in
set_option maxHeartbeats 4000000 in
theorem tX4_readLine (d n : Nat) (I : Nat → Nat → Int32) (J : Nat → Nat → Int64) (rv sp rr w nw : Nat) (hrr : rr = 3 ∨ rr = 19) (out : Int32 × (Nat → Nat → Int32) × (Nat → Nat → Int64)) (e : fX4_readLine n I J rr = some out) : mm_T none (d + 106) 44 (mm_ent 44 [(.ref 16)]) (107, I, J, mm_rf rv sp rr w nw) (fun v h => v = some (.int out.1) ∧ h = (107, out.2.1, out.2.2, mm_rf rv sp rr w nw)) := by
  rcases hrr with rfl | rfl
  · unfold fX4_readLine at e
    refine mm_T.seg (f' := (5, [some (.ref 16), none], [(.int 1), (.int (I 16 5))])) (h' := (107, I, J, mm_rf rv sp 3 w nw)) 3 rfl ?_
    refine mm_T.br (c := (I 16 5) = 1) (a := ((8, [some (.ref 16), none], []), (107, I, J, mm_rf rv sp 3 w nw))) (b := ((15, [some (.ref 16), none], []), (107, I, J, mm_rf rv sp 3 w nw))) rfl (fun h1508 => ?_) (fun h1508 => ?_)
    · rw [if_pos h1508] at e
      refine mm_T.seg (f' := (19, [some (.ref 16), some (.int (I 16 7))], [(.int (I 16 7)), (.ref 16)])) (h' := (107, I, J, mm_rf rv sp 3 w nw)) 6 rfl ?_
      obtain ⟨g218, hg218⟩ : ∃ z, fX4_mayBegin (I 16 7) I 3 = z := ⟨_, rfl⟩
      try rw [hg218] at e
      refine mm_T.call (t := 45) (as := [(.ref 16), (.int (I 16 7))]) (f' := (22, [some (.ref 16), some (.int (I 16 7))], [])) rfl (tX4_mayBegin (d + 105) (I 16 7) I J rv sp 3 w nw (Or.inl rfl) g218 hg218) (fun v h hq => ?_)
      obtain ⟨rfl, rfl⟩ := hq
      refine mm_T.br (c := g218 = 0) (a := ((25, [some (.ref 16), some (.int (I 16 7))], []), (107, I, J, mm_rf rv sp 3 w nw))) (b := ((31, [some (.ref 16), some (.int (I 16 7))], []), (107, I, J, mm_rf rv sp 3 w nw))) rfl (fun h1525 => ?_) (fun h1525 => ?_)
      · rw [if_pos h1525] at e
        refine mm_T.seg (f' := (27, [some (.ref 16), some (.int (I 16 7))], [(.int 2), (.ref 16)])) (h' := (107, I, J, mm_rf rv sp 3 w nw)) 2 rfl ?_
        obtain ⟨g219, hg219⟩ : ∃ z, fX4_refuse 2 I = z := ⟨_, rfl⟩
        try rw [hg219] at e
        refine mm_T.call (t := 30) (as := [(.ref 16), (.int 2)]) (f' := (30, [some (.ref 16), some (.int (I 16 7))], [])) rfl (tX4_refuse (d + 105) 2 I J rv sp 3 w nw g219 hg219) (fun v h hq => ?_)
        obtain ⟨rfl, rfl⟩ := hq
        by_cases h1526 : g219.1 = 0 ∨ g219.1 = 1
        case neg => rw [if_neg h1526] at e; cases e
        rw [if_pos h1526] at e
        cases e
        first | exact mm_T.retZ (v := some (.int g219.1)) rfl h1526 ⟨rfl, rfl⟩ | exact mm_T.retZ (v := some (.int out)) rfl h1526 ⟨rfl, rfl⟩
      · rw [if_neg h1525] at e
        refine mm_T.seg (f' := (44, [some (.ref 16), some (.int (I 16 7))], [(.ref 16)])) (h' := (107, (mm_up I 16 9 ((I 16 9) ||| ((1 : Int32) <<< ((I 16 7) &&& 31)))), J, mm_rf rv sp 3 w nw)) 9 rfl ?_
        obtain ⟨o1527, eo1527, e⟩ := mm_bind e
        refine mm_T.call (t := 34) (as := [(.ref 16)]) (f' := (47, [some (.ref 16), some (.int (I 16 7))], [])) rfl (tX4_advance (d + 101) n (mm_up I 16 9 ((I 16 9) ||| ((1 : Int32) <<< ((I 16 7) &&& 31)))) J rv sp 3 w nw o1527 eo1527) (fun v h hq => ?_)
        obtain ⟨rfl, rfl⟩ := hq
        refine mm_T.seg (f' := (48, [some (.ref 16), some (.int (I 16 7))], [(.int (I 16 7))])) (h' := (107, o1527.1, o1527.2, mm_rf rv sp 3 w nw)) 1 rfl ?_
        by_cases h1528 : (I 16 7) = 0
        · rw [if_pos h1528] at e
          refine mm_T.step (f' := (92, [some (.ref 16), some (.int (I 16 7))], [])) (h' := (107, o1527.1, o1527.2, mm_rf rv sp 3 w nw)) (by first | (rw [h1528]; rfl) | exact absurd h1528 (by decide)) ?_
          refine mm_T.seg (f' := (93, [some (.ref 16), some (.int (I 16 7))], [(.ref 16)])) (h' := (107, o1527.1, o1527.2, mm_rf rv sp 3 w nw)) 1 rfl ?_
          obtain ⟨o1537, eo1537, e⟩ := mm_bind e
          refine mm_T.call (t := 46) (as := [(.ref 16)]) (f' := (96, [some (.ref 16), some (.int (I 16 7))], [])) rfl (tX4_readWater (d + 99) n o1527.1 o1527.2 rv sp 3 w nw (Or.inl rfl) o1537 eo1537) (fun v h hq => ?_)
          obtain ⟨rfl, rfl⟩ := hq
          by_cases h1538 : o1537.1 = 0 ∨ o1537.1 = 1
          case neg => rw [if_neg h1538] at e; cases e
          rw [if_pos h1538] at e
          cases e
          first | exact mm_T.retZ (v := some (.int o1537.1)) rfl h1538 ⟨rfl, rfl⟩ | exact mm_T.retZ (v := some (.int out)) rfl h1538 ⟨rfl, rfl⟩
        · rw [if_neg h1528] at e
          by_cases h1539 : (I 16 7) = 1
          · rw [if_pos h1539] at e
            refine mm_T.step (f' := (97, [some (.ref 16), some (.int (I 16 7))], [])) (h' := (107, o1527.1, o1527.2, mm_rf rv sp 3 w nw)) (by first | (rw [h1539]; rfl) | exact absurd h1539 (by decide)) ?_
            refine mm_T.seg (f' := (98, [some (.ref 16), some (.int (I 16 7))], [(.ref 16)])) (h' := (107, o1527.1, o1527.2, mm_rf rv sp 3 w nw)) 1 rfl ?_
            obtain ⟨o1555, eo1555, e⟩ := mm_bind e
            refine mm_T.call (t := 47) (as := [(.ref 16)]) (f' := (101, [some (.ref 16), some (.int (I 16 7))], [])) rfl (tX4_readCurrent (d + 99) n o1527.1 o1527.2 rv sp 3 w nw (Or.inl rfl) o1555 eo1555) (fun v h hq => ?_)
            obtain ⟨rfl, rfl⟩ := hq
            by_cases h1556 : o1555.1 = 0 ∨ o1555.1 = 1
            case neg => rw [if_neg h1556] at e; cases e
            rw [if_pos h1556] at e
            cases e
            first | exact mm_T.retZ (v := some (.int o1555.1)) rfl h1556 ⟨rfl, rfl⟩ | exact mm_T.retZ (v := some (.int out)) rfl h1556 ⟨rfl, rfl⟩
          · rw [if_neg h1539] at e
            by_cases h1557 : (I 16 7) = 2
            · rw [if_pos h1557] at e
              refine mm_T.step (f' := (102, [some (.ref 16), some (.int (I 16 7))], [])) (h' := (107, o1527.1, o1527.2, mm_rf rv sp 3 w nw)) (by first | (rw [h1557]; rfl) | exact absurd h1557 (by decide)) ?_
              refine mm_T.seg (f' := (103, [some (.ref 16), some (.int (I 16 7))], [(.ref 16)])) (h' := (107, o1527.1, o1527.2, mm_rf rv sp 3 w nw)) 1 rfl ?_
              obtain ⟨o1567, eo1567, e⟩ := mm_bind e
              refine mm_T.call (t := 48) (as := [(.ref 16)]) (f' := (106, [some (.ref 16), some (.int (I 16 7))], [])) rfl (tX4_readIron (d + 99) n o1527.1 o1527.2 rv sp 3 w nw (Or.inl rfl) o1567 eo1567) (fun v h hq => ?_)
              obtain ⟨rfl, rfl⟩ := hq
              by_cases h1568 : o1567.1 = 0 ∨ o1567.1 = 1
              case neg => rw [if_neg h1568] at e; cases e
              rw [if_pos h1568] at e
              cases e
              first | exact mm_T.retZ (v := some (.int o1567.1)) rfl h1568 ⟨rfl, rfl⟩ | exact mm_T.retZ (v := some (.int out)) rfl h1568 ⟨rfl, rfl⟩
            · rw [if_neg h1557] at e
              by_cases h1569 : (I 16 7) = 3
              · rw [if_pos h1569] at e
                refine mm_T.step (f' := (107, [some (.ref 16), some (.int (I 16 7))], [])) (h' := (107, o1527.1, o1527.2, mm_rf rv sp 3 w nw)) (by first | (rw [h1569]; rfl) | exact absurd h1569 (by decide)) ?_
                refine mm_T.seg (f' := (108, [some (.ref 16), some (.int (I 16 7))], [(.ref 16)])) (h' := (107, o1527.1, o1527.2, mm_rf rv sp 3 w nw)) 1 rfl ?_
                obtain ⟨o1626, eo1626, e⟩ := mm_bind e
                refine mm_T.call (t := 50) (as := [(.ref 16)]) (f' := (111, [some (.ref 16), some (.int (I 16 7))], [])) rfl (tX4_readBoard (d + 99) n o1527.1 o1527.2 rv sp 3 w nw (Or.inl rfl) o1626 eo1626) (fun v h hq => ?_)
                obtain ⟨rfl, rfl⟩ := hq
                by_cases h1627 : o1626.1 = 0 ∨ o1626.1 = 1
                case neg => rw [if_neg h1627] at e; cases e
                rw [if_pos h1627] at e
                cases e
                first | exact mm_T.retZ (v := some (.int o1626.1)) rfl h1627 ⟨rfl, rfl⟩ | exact mm_T.retZ (v := some (.int out)) rfl h1627 ⟨rfl, rfl⟩
              · rw [if_neg h1569] at e
                by_cases h1628 : (I 16 7) = 4
                · rw [if_pos h1628] at e
                  refine mm_T.step (f' := (112, [some (.ref 16), some (.int (I 16 7))], [])) (h' := (107, o1527.1, o1527.2, mm_rf rv sp 3 w nw)) (by first | (rw [h1628]; rfl) | exact absurd h1628 (by decide)) ?_
                  refine mm_T.seg (f' := (113, [some (.ref 16), some (.int (I 16 7))], [(.ref 16)])) (h' := (107, o1527.1, o1527.2, mm_rf rv sp 3 w nw)) 1 rfl ?_
                  obtain ⟨o1641, eo1641, e⟩ := mm_bind e
                  refine mm_T.call (t := 51) (as := [(.ref 16)]) (f' := (116, [some (.ref 16), some (.int (I 16 7))], [])) rfl (tX4_readLoad (d + 99) n o1527.1 o1527.2 rv sp 3 w nw (Or.inl rfl) o1641 eo1641) (fun v h hq => ?_)
                  obtain ⟨rfl, rfl⟩ := hq
                  by_cases h1642 : o1641.1 = 0 ∨ o1641.1 = 1
                  case neg => rw [if_neg h1642] at e; cases e
                  rw [if_pos h1642] at e
                  cases e
                  first | exact mm_T.retZ (v := some (.int o1641.1)) rfl h1642 ⟨rfl, rfl⟩ | exact mm_T.retZ (v := some (.int out)) rfl h1642 ⟨rfl, rfl⟩
                · rw [if_neg h1628] at e
                  by_cases h1643 : (I 16 7) = 5
                  · rw [if_pos h1643] at e
                    refine mm_T.step (f' := (117, [some (.ref 16), some (.int (I 16 7))], [])) (h' := (107, o1527.1, o1527.2, mm_rf rv sp 3 w nw)) (by first | (rw [h1643]; rfl) | exact absurd h1643 (by decide)) ?_
                    refine mm_T.seg (f' := (119, [some (.ref 16), some (.int (I 16 7))], [(.int 0), (.ref 16)])) (h' := (107, o1527.1, o1527.2, mm_rf rv sp 3 w nw)) 2 rfl ?_
                    obtain ⟨o1906, eo1906, e⟩ := mm_bind e
                    refine mm_T.call (t := 54) (as := [(.ref 16), (.int 0)]) (f' := (122, [some (.ref 16), some (.int (I 16 7))], [])) rfl (mm_T.deep (tX4_readAny (d + 99) n (fX4_readOne n 9) (tX4_readOne d n 9) 0 o1527.1 o1527.2 rv sp 3 w nw (Or.inl rfl) o1906 eo1906) (by omega)) (fun v h hq => ?_)
                    obtain ⟨rfl, rfl⟩ := hq
                    refine mm_T.br (c := o1906.1 = 0) (a := ((136, [some (.ref 16), some (.int (I 16 7))], []), (107, o1906.2.1, o1906.2.2, mm_rf rv sp 3 w nw))) (b := ((125, [some (.ref 16), some (.int (I 16 7))], []), (107, o1906.2.1, o1906.2.2, mm_rf rv sp 3 w nw))) rfl (fun h1907 => ?_) (fun h1907 => ?_)
                    · rw [if_pos h1907] at e
                      refine mm_T.seg (f' := (137, [some (.ref 16), some (.int (I 16 7))], [(.int 0)])) (h' := (107, o1906.2.1, o1906.2.2, mm_rf rv sp 3 w nw)) 1 rfl ?_
                      cases e
                      exact mm_T.ret rfl ⟨rfl, rfl⟩
                    · rw [if_neg h1907] at e
                      refine mm_T.seg (f' := (126, [some (.ref 16), some (.int (I 16 7))], [(.ref 16)])) (h' := (107, o1906.2.1, o1906.2.2, mm_rf rv sp 3 w nw)) 1 rfl ?_
                      obtain ⟨o1908, eo1908, e⟩ := mm_bind e
                      refine mm_T.call (t := 41) (as := [(.ref 16)]) (f' := (129, [some (.ref 16), some (.int (I 16 7))], [])) rfl (tX4_passEndOfLine (d + 100) n o1906.2.1 o1906.2.2 rv sp 3 w nw o1908 eo1908) (fun v h hq => ?_)
                      obtain ⟨rfl, rfl⟩ := hq
                      refine mm_T.br (c := o1908.1 = 0) (a := ((136, [some (.ref 16), some (.int (I 16 7))], []), (107, o1908.2.1, o1908.2.2, mm_rf rv sp 3 w nw))) (b := ((132, [some (.ref 16), some (.int (I 16 7))], []), (107, o1908.2.1, o1908.2.2, mm_rf rv sp 3 w nw))) rfl (fun h1909 => ?_) (fun h1909 => ?_)
                      · rw [if_pos h1909] at e
                        refine mm_T.seg (f' := (137, [some (.ref 16), some (.int (I 16 7))], [(.int 0)])) (h' := (107, o1908.2.1, o1908.2.2, mm_rf rv sp 3 w nw)) 1 rfl ?_
                        cases e
                        exact mm_T.ret rfl ⟨rfl, rfl⟩
                      · rw [if_neg h1909] at e
                        refine mm_T.seg (f' := (137, [some (.ref 16), some (.int (I 16 7))], [(.int 1)])) (h' := (107, o1908.2.1, o1908.2.2, mm_rf rv sp 3 w nw)) 2 rfl ?_
                        cases e
                        exact mm_T.ret rfl ⟨rfl, rfl⟩
                  · rw [if_neg h1643] at e
                    by_cases h1910 : (I 16 7) = 6
                    · rw [if_pos h1910] at e
                      refine mm_T.step (f' := (138, [some (.ref 16), some (.int (I 16 7))], [])) (h' := (107, o1527.1, o1527.2, mm_rf rv sp 3 w nw)) (by first | (rw [h1910]; rfl) | exact absurd h1910 (by decide)) ?_
                      refine mm_T.seg (f' := (139, [some (.ref 16), some (.int (I 16 7))], [(.ref 16)])) (h' := (107, o1527.1, o1527.2, mm_rf rv sp 3 w nw)) 1 rfl ?_
                      obtain ⟨o1915, eo1915, e⟩ := mm_bind e
                      refine mm_T.call (t := 52) (as := [(.ref 16)]) (f' := (142, [some (.ref 16), some (.int (I 16 7))], [])) rfl (tX4_readFlood (d + 99) n o1527.1 o1527.2 rv sp 3 w nw (Or.inl rfl) o1915 eo1915) (fun v h hq => ?_)
                      obtain ⟨rfl, rfl⟩ := hq
                      by_cases h1916 : o1915.1 = 0 ∨ o1915.1 = 1
                      case neg => rw [if_neg h1916] at e; cases e
                      rw [if_pos h1916] at e
                      cases e
                      first | exact mm_T.retZ (v := some (.int o1915.1)) rfl h1916 ⟨rfl, rfl⟩ | exact mm_T.retZ (v := some (.int out)) rfl h1916 ⟨rfl, rfl⟩
                    · rw [if_neg h1910] at e
                      refine mm_T.tabs (lo := 0) (hi := 6) (y := ((143, [some (.ref 16), some (.int (I 16 7))], []), (107, o1527.1, o1527.2, mm_rf rv sp 3 w nw))) rfl (mm_swo (0) (6) (I 16 7) [0, 1, 2, 3, 4, 5, 6] (by decide) (by intro z hz; simp only [List.mem_cons, List.not_mem_nil, or_false] at hz; rcases hz with rfl | rfl | rfl | rfl | rfl | rfl | rfl <;> first | assumption | decide)) ?_
                      refine mm_T.seg (f' := (144, [some (.ref 16), some (.int (I 16 7))], [(.ref 16)])) (h' := (107, o1527.1, o1527.2, mm_rf rv sp 3 w nw)) 1 rfl ?_
                      obtain ⟨o1921, eo1921, e⟩ := mm_bind e
                      refine mm_T.call (t := 53) (as := [(.ref 16)]) (f' := (147, [some (.ref 16), some (.int (I 16 7))], [])) rfl (tX4_readDraw (d + 99) n o1527.1 o1527.2 rv sp 3 w nw (Or.inl rfl) o1921 eo1921) (fun v h hq => ?_)
                      obtain ⟨rfl, rfl⟩ := hq
                      by_cases h1922 : o1921.1 = 0 ∨ o1921.1 = 1
                      case neg => rw [if_neg h1922] at e; cases e
                      rw [if_pos h1922] at e
                      cases e
                      first | exact mm_T.retZ (v := some (.int o1921.1)) rfl h1922 ⟨rfl, rfl⟩ | exact mm_T.retZ (v := some (.int out)) rfl h1922 ⟨rfl, rfl⟩
    · rw [if_neg h1508] at e
      refine mm_T.seg (f' := (19, [some (.ref 16), some (.int (-1))], [(.int (-1)), (.ref 16)])) (h' := (107, I, J, mm_rf rv sp 3 w nw)) 4 rfl ?_
      obtain ⟨g245, hg245⟩ : ∃ z, fX4_mayBegin (-1) I 3 = z := ⟨_, rfl⟩
      try rw [hg245] at e
      refine mm_T.call (t := 45) (as := [(.ref 16), (.int (-1))]) (f' := (22, [some (.ref 16), some (.int (-1))], [])) rfl (tX4_mayBegin (d + 105) (-1) I J rv sp 3 w nw (Or.inl rfl) g245 hg245) (fun v h hq => ?_)
      obtain ⟨rfl, rfl⟩ := hq
      refine mm_T.br (c := g245 = 0) (a := ((25, [some (.ref 16), some (.int (-1))], []), (107, I, J, mm_rf rv sp 3 w nw))) (b := ((31, [some (.ref 16), some (.int (-1))], []), (107, I, J, mm_rf rv sp 3 w nw))) rfl (fun h1923 => ?_) (fun h1923 => ?_)
      · rw [if_pos h1923] at e
        refine mm_T.seg (f' := (27, [some (.ref 16), some (.int (-1))], [(.int 2), (.ref 16)])) (h' := (107, I, J, mm_rf rv sp 3 w nw)) 2 rfl ?_
        obtain ⟨g246, hg246⟩ : ∃ z, fX4_refuse 2 I = z := ⟨_, rfl⟩
        try rw [hg246] at e
        refine mm_T.call (t := 30) (as := [(.ref 16), (.int 2)]) (f' := (30, [some (.ref 16), some (.int (-1))], [])) rfl (tX4_refuse (d + 105) 2 I J rv sp 3 w nw g246 hg246) (fun v h hq => ?_)
        obtain ⟨rfl, rfl⟩ := hq
        by_cases h1924 : g246.1 = 0 ∨ g246.1 = 1
        case neg => rw [if_neg h1924] at e; cases e
        rw [if_pos h1924] at e
        cases e
        first | exact mm_T.retZ (v := some (.int g246.1)) rfl h1924 ⟨rfl, rfl⟩ | exact mm_T.retZ (v := some (.int out)) rfl h1924 ⟨rfl, rfl⟩
      · rw [if_neg h1923] at e
        refine mm_T.seg (f' := (44, [some (.ref 16), some (.int (-1))], [(.ref 16)])) (h' := (107, (mm_up I 16 9 ((I 16 9) ||| ((1 : Int32) <<< (((-1) : Int32) &&& 31)))), J, mm_rf rv sp 3 w nw)) 9 rfl ?_
        obtain ⟨o1925, eo1925, e⟩ := mm_bind e
        refine mm_T.call (t := 34) (as := [(.ref 16)]) (f' := (47, [some (.ref 16), some (.int (-1))], [])) rfl (tX4_advance (d + 101) n (mm_up I 16 9 ((I 16 9) ||| ((1 : Int32) <<< (((-1) : Int32) &&& 31)))) J rv sp 3 w nw o1925 eo1925) (fun v h hq => ?_)
        obtain ⟨rfl, rfl⟩ := hq
        refine mm_T.seg (f' := (48, [some (.ref 16), some (.int (-1))], [(.int (-1))])) (h' := (107, o1925.1, o1925.2, mm_rf rv sp 3 w nw)) 1 rfl ?_
        by_cases h1926 : (-1) = 0
        · rw [if_pos h1926] at e
          refine mm_T.step (f' := (92, [some (.ref 16), some (.int (-1))], [])) (h' := (107, o1925.1, o1925.2, mm_rf rv sp 3 w nw)) (by first | (rw [h1926]; rfl) | exact absurd h1926 (by decide)) ?_
          refine mm_T.seg (f' := (93, [some (.ref 16), some (.int (-1))], [(.ref 16)])) (h' := (107, o1925.1, o1925.2, mm_rf rv sp 3 w nw)) 1 rfl ?_
          obtain ⟨o1927, eo1927, e⟩ := mm_bind e
          refine mm_T.call (t := 46) (as := [(.ref 16)]) (f' := (96, [some (.ref 16), some (.int (-1))], [])) rfl (tX4_readWater (d + 99) n o1925.1 o1925.2 rv sp 3 w nw (Or.inl rfl) o1927 eo1927) (fun v h hq => ?_)
          obtain ⟨rfl, rfl⟩ := hq
          by_cases h1928 : o1927.1 = 0 ∨ o1927.1 = 1
          case neg => rw [if_neg h1928] at e; cases e
          rw [if_pos h1928] at e
          cases e
          first | exact mm_T.retZ (v := some (.int o1927.1)) rfl h1928 ⟨rfl, rfl⟩ | exact mm_T.retZ (v := some (.int out)) rfl h1928 ⟨rfl, rfl⟩
        · rw [if_neg h1926] at e
          by_cases h1929 : (-1) = 1
          · rw [if_pos h1929] at e
            refine mm_T.step (f' := (97, [some (.ref 16), some (.int (-1))], [])) (h' := (107, o1925.1, o1925.2, mm_rf rv sp 3 w nw)) (by first | (rw [h1929]; rfl) | exact absurd h1929 (by decide)) ?_
            refine mm_T.seg (f' := (98, [some (.ref 16), some (.int (-1))], [(.ref 16)])) (h' := (107, o1925.1, o1925.2, mm_rf rv sp 3 w nw)) 1 rfl ?_
            obtain ⟨o1930, eo1930, e⟩ := mm_bind e
            refine mm_T.call (t := 47) (as := [(.ref 16)]) (f' := (101, [some (.ref 16), some (.int (-1))], [])) rfl (tX4_readCurrent (d + 99) n o1925.1 o1925.2 rv sp 3 w nw (Or.inl rfl) o1930 eo1930) (fun v h hq => ?_)
            obtain ⟨rfl, rfl⟩ := hq
            by_cases h1931 : o1930.1 = 0 ∨ o1930.1 = 1
            case neg => rw [if_neg h1931] at e; cases e
            rw [if_pos h1931] at e
            cases e
            first | exact mm_T.retZ (v := some (.int o1930.1)) rfl h1931 ⟨rfl, rfl⟩ | exact mm_T.retZ (v := some (.int out)) rfl h1931 ⟨rfl, rfl⟩
          · rw [if_neg h1929] at e
            by_cases h1932 : (-1) = 2
            · rw [if_pos h1932] at e
              refine mm_T.step (f' := (102, [some (.ref 16), some (.int (-1))], [])) (h' := (107, o1925.1, o1925.2, mm_rf rv sp 3 w nw)) (by first | (rw [h1932]; rfl) | exact absurd h1932 (by decide)) ?_
              refine mm_T.seg (f' := (103, [some (.ref 16), some (.int (-1))], [(.ref 16)])) (h' := (107, o1925.1, o1925.2, mm_rf rv sp 3 w nw)) 1 rfl ?_
              obtain ⟨o1933, eo1933, e⟩ := mm_bind e
              refine mm_T.call (t := 48) (as := [(.ref 16)]) (f' := (106, [some (.ref 16), some (.int (-1))], [])) rfl (tX4_readIron (d + 99) n o1925.1 o1925.2 rv sp 3 w nw (Or.inl rfl) o1933 eo1933) (fun v h hq => ?_)
              obtain ⟨rfl, rfl⟩ := hq
              by_cases h1934 : o1933.1 = 0 ∨ o1933.1 = 1
              case neg => rw [if_neg h1934] at e; cases e
              rw [if_pos h1934] at e
              cases e
              first | exact mm_T.retZ (v := some (.int o1933.1)) rfl h1934 ⟨rfl, rfl⟩ | exact mm_T.retZ (v := some (.int out)) rfl h1934 ⟨rfl, rfl⟩
            · rw [if_neg h1932] at e
              by_cases h1935 : (-1) = 3
              · rw [if_pos h1935] at e
                refine mm_T.step (f' := (107, [some (.ref 16), some (.int (-1))], [])) (h' := (107, o1925.1, o1925.2, mm_rf rv sp 3 w nw)) (by first | (rw [h1935]; rfl) | exact absurd h1935 (by decide)) ?_
                refine mm_T.seg (f' := (108, [some (.ref 16), some (.int (-1))], [(.ref 16)])) (h' := (107, o1925.1, o1925.2, mm_rf rv sp 3 w nw)) 1 rfl ?_
                obtain ⟨o1936, eo1936, e⟩ := mm_bind e
                refine mm_T.call (t := 50) (as := [(.ref 16)]) (f' := (111, [some (.ref 16), some (.int (-1))], [])) rfl (tX4_readBoard (d + 99) n o1925.1 o1925.2 rv sp 3 w nw (Or.inl rfl) o1936 eo1936) (fun v h hq => ?_)
                obtain ⟨rfl, rfl⟩ := hq
                by_cases h1937 : o1936.1 = 0 ∨ o1936.1 = 1
                case neg => rw [if_neg h1937] at e; cases e
                rw [if_pos h1937] at e
                cases e
                first | exact mm_T.retZ (v := some (.int o1936.1)) rfl h1937 ⟨rfl, rfl⟩ | exact mm_T.retZ (v := some (.int out)) rfl h1937 ⟨rfl, rfl⟩
              · rw [if_neg h1935] at e
                by_cases h1938 : (-1) = 4
                · rw [if_pos h1938] at e
                  refine mm_T.step (f' := (112, [some (.ref 16), some (.int (-1))], [])) (h' := (107, o1925.1, o1925.2, mm_rf rv sp 3 w nw)) (by first | (rw [h1938]; rfl) | exact absurd h1938 (by decide)) ?_
                  refine mm_T.seg (f' := (113, [some (.ref 16), some (.int (-1))], [(.ref 16)])) (h' := (107, o1925.1, o1925.2, mm_rf rv sp 3 w nw)) 1 rfl ?_
                  obtain ⟨o1939, eo1939, e⟩ := mm_bind e
                  refine mm_T.call (t := 51) (as := [(.ref 16)]) (f' := (116, [some (.ref 16), some (.int (-1))], [])) rfl (tX4_readLoad (d + 99) n o1925.1 o1925.2 rv sp 3 w nw (Or.inl rfl) o1939 eo1939) (fun v h hq => ?_)
                  obtain ⟨rfl, rfl⟩ := hq
                  by_cases h1940 : o1939.1 = 0 ∨ o1939.1 = 1
                  case neg => rw [if_neg h1940] at e; cases e
                  rw [if_pos h1940] at e
                  cases e
                  first | exact mm_T.retZ (v := some (.int o1939.1)) rfl h1940 ⟨rfl, rfl⟩ | exact mm_T.retZ (v := some (.int out)) rfl h1940 ⟨rfl, rfl⟩
                · rw [if_neg h1938] at e
                  by_cases h1941 : (-1) = 5
                  · rw [if_pos h1941] at e
                    refine mm_T.step (f' := (117, [some (.ref 16), some (.int (-1))], [])) (h' := (107, o1925.1, o1925.2, mm_rf rv sp 3 w nw)) (by first | (rw [h1941]; rfl) | exact absurd h1941 (by decide)) ?_
                    refine mm_T.seg (f' := (119, [some (.ref 16), some (.int (-1))], [(.int 0), (.ref 16)])) (h' := (107, o1925.1, o1925.2, mm_rf rv sp 3 w nw)) 2 rfl ?_
                    obtain ⟨o1942, eo1942, e⟩ := mm_bind e
                    refine mm_T.call (t := 54) (as := [(.ref 16), (.int 0)]) (f' := (122, [some (.ref 16), some (.int (-1))], [])) rfl (mm_T.deep (tX4_readAny (d + 99) n (fX4_readOne n 9) (tX4_readOne d n 9) 0 o1925.1 o1925.2 rv sp 3 w nw (Or.inl rfl) o1942 eo1942) (by omega)) (fun v h hq => ?_)
                    obtain ⟨rfl, rfl⟩ := hq
                    refine mm_T.br (c := o1942.1 = 0) (a := ((136, [some (.ref 16), some (.int (-1))], []), (107, o1942.2.1, o1942.2.2, mm_rf rv sp 3 w nw))) (b := ((125, [some (.ref 16), some (.int (-1))], []), (107, o1942.2.1, o1942.2.2, mm_rf rv sp 3 w nw))) rfl (fun h1943 => ?_) (fun h1943 => ?_)
                    · rw [if_pos h1943] at e
                      refine mm_T.seg (f' := (137, [some (.ref 16), some (.int (-1))], [(.int 0)])) (h' := (107, o1942.2.1, o1942.2.2, mm_rf rv sp 3 w nw)) 1 rfl ?_
                      cases e
                      exact mm_T.ret rfl ⟨rfl, rfl⟩
                    · rw [if_neg h1943] at e
                      refine mm_T.seg (f' := (126, [some (.ref 16), some (.int (-1))], [(.ref 16)])) (h' := (107, o1942.2.1, o1942.2.2, mm_rf rv sp 3 w nw)) 1 rfl ?_
                      obtain ⟨o1944, eo1944, e⟩ := mm_bind e
                      refine mm_T.call (t := 41) (as := [(.ref 16)]) (f' := (129, [some (.ref 16), some (.int (-1))], [])) rfl (tX4_passEndOfLine (d + 100) n o1942.2.1 o1942.2.2 rv sp 3 w nw o1944 eo1944) (fun v h hq => ?_)
                      obtain ⟨rfl, rfl⟩ := hq
                      refine mm_T.br (c := o1944.1 = 0) (a := ((136, [some (.ref 16), some (.int (-1))], []), (107, o1944.2.1, o1944.2.2, mm_rf rv sp 3 w nw))) (b := ((132, [some (.ref 16), some (.int (-1))], []), (107, o1944.2.1, o1944.2.2, mm_rf rv sp 3 w nw))) rfl (fun h1945 => ?_) (fun h1945 => ?_)
                      · rw [if_pos h1945] at e
                        refine mm_T.seg (f' := (137, [some (.ref 16), some (.int (-1))], [(.int 0)])) (h' := (107, o1944.2.1, o1944.2.2, mm_rf rv sp 3 w nw)) 1 rfl ?_
                        cases e
                        exact mm_T.ret rfl ⟨rfl, rfl⟩
                      · rw [if_neg h1945] at e
                        refine mm_T.seg (f' := (137, [some (.ref 16), some (.int (-1))], [(.int 1)])) (h' := (107, o1944.2.1, o1944.2.2, mm_rf rv sp 3 w nw)) 2 rfl ?_
                        cases e
                        exact mm_T.ret rfl ⟨rfl, rfl⟩
                  · rw [if_neg h1941] at e
                    by_cases h1946 : (-1) = 6
                    · rw [if_pos h1946] at e
                      refine mm_T.step (f' := (138, [some (.ref 16), some (.int (-1))], [])) (h' := (107, o1925.1, o1925.2, mm_rf rv sp 3 w nw)) (by first | (rw [h1946]; rfl) | exact absurd h1946 (by decide)) ?_
                      refine mm_T.seg (f' := (139, [some (.ref 16), some (.int (-1))], [(.ref 16)])) (h' := (107, o1925.1, o1925.2, mm_rf rv sp 3 w nw)) 1 rfl ?_
                      obtain ⟨o1947, eo1947, e⟩ := mm_bind e
                      refine mm_T.call (t := 52) (as := [(.ref 16)]) (f' := (142, [some (.ref 16), some (.int (-1))], [])) rfl (tX4_readFlood (d + 99) n o1925.1 o1925.2 rv sp 3 w nw (Or.inl rfl) o1947 eo1947) (fun v h hq => ?_)
                      obtain ⟨rfl, rfl⟩ := hq
                      by_cases h1948 : o1947.1 = 0 ∨ o1947.1 = 1
                      case neg => rw [if_neg h1948] at e; cases e
                      rw [if_pos h1948] at e
                      cases e
                      first | exact mm_T.retZ (v := some (.int o1947.1)) rfl h1948 ⟨rfl, rfl⟩ | exact mm_T.retZ (v := some (.int out)) rfl h1948 ⟨rfl, rfl⟩
                    · rw [if_neg h1946] at e
                      refine mm_T.step (f' := (143, [some (.ref 16), some (.int (-1))], [])) (h' := (107, o1925.1, o1925.2, mm_rf rv sp 3 w nw)) rfl ?_
                      refine mm_T.seg (f' := (144, [some (.ref 16), some (.int (-1))], [(.ref 16)])) (h' := (107, o1925.1, o1925.2, mm_rf rv sp 3 w nw)) 1 rfl ?_
                      obtain ⟨o1949, eo1949, e⟩ := mm_bind e
                      refine mm_T.call (t := 53) (as := [(.ref 16)]) (f' := (147, [some (.ref 16), some (.int (-1))], [])) rfl (tX4_readDraw (d + 99) n o1925.1 o1925.2 rv sp 3 w nw (Or.inl rfl) o1949 eo1949) (fun v h hq => ?_)
                      obtain ⟨rfl, rfl⟩ := hq
                      by_cases h1950 : o1949.1 = 0 ∨ o1949.1 = 1
                      case neg => rw [if_neg h1950] at e; cases e
                      rw [if_pos h1950] at e
                      cases e
                      first | exact mm_T.retZ (v := some (.int o1949.1)) rfl h1950 ⟨rfl, rfl⟩ | exact mm_T.retZ (v := some (.int out)) rfl h1950 ⟨rfl, rfl⟩
  · unfold fX4_readLine at e
    refine mm_T.seg (f' := (5, [some (.ref 16), none], [(.int 1), (.int (I 16 5))])) (h' := (107, I, J, mm_rf rv sp 19 w nw)) 3 rfl ?_
    refine mm_T.br (c := (I 16 5) = 1) (a := ((8, [some (.ref 16), none], []), (107, I, J, mm_rf rv sp 19 w nw))) (b := ((15, [some (.ref 16), none], []), (107, I, J, mm_rf rv sp 19 w nw))) rfl (fun h1508 => ?_) (fun h1508 => ?_)
    · rw [if_pos h1508] at e
      refine mm_T.seg (f' := (19, [some (.ref 16), some (.int (I 16 7))], [(.int (I 16 7)), (.ref 16)])) (h' := (107, I, J, mm_rf rv sp 19 w nw)) 6 rfl ?_
      obtain ⟨g218, hg218⟩ : ∃ z, fX4_mayBegin (I 16 7) I 19 = z := ⟨_, rfl⟩
      try rw [hg218] at e
      refine mm_T.call (t := 45) (as := [(.ref 16), (.int (I 16 7))]) (f' := (22, [some (.ref 16), some (.int (I 16 7))], [])) rfl (tX4_mayBegin (d + 105) (I 16 7) I J rv sp 19 w nw (Or.inr rfl) g218 hg218) (fun v h hq => ?_)
      obtain ⟨rfl, rfl⟩ := hq
      refine mm_T.br (c := g218 = 0) (a := ((25, [some (.ref 16), some (.int (I 16 7))], []), (107, I, J, mm_rf rv sp 19 w nw))) (b := ((31, [some (.ref 16), some (.int (I 16 7))], []), (107, I, J, mm_rf rv sp 19 w nw))) rfl (fun h1525 => ?_) (fun h1525 => ?_)
      · rw [if_pos h1525] at e
        refine mm_T.seg (f' := (27, [some (.ref 16), some (.int (I 16 7))], [(.int 2), (.ref 16)])) (h' := (107, I, J, mm_rf rv sp 19 w nw)) 2 rfl ?_
        obtain ⟨g219, hg219⟩ : ∃ z, fX4_refuse 2 I = z := ⟨_, rfl⟩
        try rw [hg219] at e
        refine mm_T.call (t := 30) (as := [(.ref 16), (.int 2)]) (f' := (30, [some (.ref 16), some (.int (I 16 7))], [])) rfl (tX4_refuse (d + 105) 2 I J rv sp 19 w nw g219 hg219) (fun v h hq => ?_)
        obtain ⟨rfl, rfl⟩ := hq
        by_cases h1526 : g219.1 = 0 ∨ g219.1 = 1
        case neg => rw [if_neg h1526] at e; cases e
        rw [if_pos h1526] at e
        cases e
        first | exact mm_T.retZ (v := some (.int g219.1)) rfl h1526 ⟨rfl, rfl⟩ | exact mm_T.retZ (v := some (.int out)) rfl h1526 ⟨rfl, rfl⟩
      · rw [if_neg h1525] at e
        refine mm_T.seg (f' := (44, [some (.ref 16), some (.int (I 16 7))], [(.ref 16)])) (h' := (107, (mm_up I 16 9 ((I 16 9) ||| ((1 : Int32) <<< ((I 16 7) &&& 31)))), J, mm_rf rv sp 19 w nw)) 9 rfl ?_
        obtain ⟨o1527, eo1527, e⟩ := mm_bind e
        refine mm_T.call (t := 34) (as := [(.ref 16)]) (f' := (47, [some (.ref 16), some (.int (I 16 7))], [])) rfl (tX4_advance (d + 101) n (mm_up I 16 9 ((I 16 9) ||| ((1 : Int32) <<< ((I 16 7) &&& 31)))) J rv sp 19 w nw o1527 eo1527) (fun v h hq => ?_)
        obtain ⟨rfl, rfl⟩ := hq
        refine mm_T.seg (f' := (48, [some (.ref 16), some (.int (I 16 7))], [(.int (I 16 7))])) (h' := (107, o1527.1, o1527.2, mm_rf rv sp 19 w nw)) 1 rfl ?_
        by_cases h1528 : (I 16 7) = 0
        · rw [if_pos h1528] at e
          refine mm_T.step (f' := (92, [some (.ref 16), some (.int (I 16 7))], [])) (h' := (107, o1527.1, o1527.2, mm_rf rv sp 19 w nw)) (by first | (rw [h1528]; rfl) | exact absurd h1528 (by decide)) ?_
          refine mm_T.seg (f' := (93, [some (.ref 16), some (.int (I 16 7))], [(.ref 16)])) (h' := (107, o1527.1, o1527.2, mm_rf rv sp 19 w nw)) 1 rfl ?_
          obtain ⟨o1537, eo1537, e⟩ := mm_bind e
          refine mm_T.call (t := 46) (as := [(.ref 16)]) (f' := (96, [some (.ref 16), some (.int (I 16 7))], [])) rfl (tX4_readWater (d + 99) n o1527.1 o1527.2 rv sp 19 w nw (Or.inr rfl) o1537 eo1537) (fun v h hq => ?_)
          obtain ⟨rfl, rfl⟩ := hq
          by_cases h1538 : o1537.1 = 0 ∨ o1537.1 = 1
          case neg => rw [if_neg h1538] at e; cases e
          rw [if_pos h1538] at e
          cases e
          first | exact mm_T.retZ (v := some (.int o1537.1)) rfl h1538 ⟨rfl, rfl⟩ | exact mm_T.retZ (v := some (.int out)) rfl h1538 ⟨rfl, rfl⟩
        · rw [if_neg h1528] at e
          by_cases h1539 : (I 16 7) = 1
          · rw [if_pos h1539] at e
            refine mm_T.step (f' := (97, [some (.ref 16), some (.int (I 16 7))], [])) (h' := (107, o1527.1, o1527.2, mm_rf rv sp 19 w nw)) (by first | (rw [h1539]; rfl) | exact absurd h1539 (by decide)) ?_
            refine mm_T.seg (f' := (98, [some (.ref 16), some (.int (I 16 7))], [(.ref 16)])) (h' := (107, o1527.1, o1527.2, mm_rf rv sp 19 w nw)) 1 rfl ?_
            obtain ⟨o1555, eo1555, e⟩ := mm_bind e
            refine mm_T.call (t := 47) (as := [(.ref 16)]) (f' := (101, [some (.ref 16), some (.int (I 16 7))], [])) rfl (tX4_readCurrent (d + 99) n o1527.1 o1527.2 rv sp 19 w nw (Or.inr rfl) o1555 eo1555) (fun v h hq => ?_)
            obtain ⟨rfl, rfl⟩ := hq
            by_cases h1556 : o1555.1 = 0 ∨ o1555.1 = 1
            case neg => rw [if_neg h1556] at e; cases e
            rw [if_pos h1556] at e
            cases e
            first | exact mm_T.retZ (v := some (.int o1555.1)) rfl h1556 ⟨rfl, rfl⟩ | exact mm_T.retZ (v := some (.int out)) rfl h1556 ⟨rfl, rfl⟩
          · rw [if_neg h1539] at e
            by_cases h1557 : (I 16 7) = 2
            · rw [if_pos h1557] at e
              refine mm_T.step (f' := (102, [some (.ref 16), some (.int (I 16 7))], [])) (h' := (107, o1527.1, o1527.2, mm_rf rv sp 19 w nw)) (by first | (rw [h1557]; rfl) | exact absurd h1557 (by decide)) ?_
              refine mm_T.seg (f' := (103, [some (.ref 16), some (.int (I 16 7))], [(.ref 16)])) (h' := (107, o1527.1, o1527.2, mm_rf rv sp 19 w nw)) 1 rfl ?_
              obtain ⟨o1567, eo1567, e⟩ := mm_bind e
              refine mm_T.call (t := 48) (as := [(.ref 16)]) (f' := (106, [some (.ref 16), some (.int (I 16 7))], [])) rfl (tX4_readIron (d + 99) n o1527.1 o1527.2 rv sp 19 w nw (Or.inr rfl) o1567 eo1567) (fun v h hq => ?_)
              obtain ⟨rfl, rfl⟩ := hq
              by_cases h1568 : o1567.1 = 0 ∨ o1567.1 = 1
              case neg => rw [if_neg h1568] at e; cases e
              rw [if_pos h1568] at e
              cases e
              first | exact mm_T.retZ (v := some (.int o1567.1)) rfl h1568 ⟨rfl, rfl⟩ | exact mm_T.retZ (v := some (.int out)) rfl h1568 ⟨rfl, rfl⟩
            · rw [if_neg h1557] at e
              by_cases h1569 : (I 16 7) = 3
              · rw [if_pos h1569] at e
                refine mm_T.step (f' := (107, [some (.ref 16), some (.int (I 16 7))], [])) (h' := (107, o1527.1, o1527.2, mm_rf rv sp 19 w nw)) (by first | (rw [h1569]; rfl) | exact absurd h1569 (by decide)) ?_
                refine mm_T.seg (f' := (108, [some (.ref 16), some (.int (I 16 7))], [(.ref 16)])) (h' := (107, o1527.1, o1527.2, mm_rf rv sp 19 w nw)) 1 rfl ?_
                obtain ⟨o1626, eo1626, e⟩ := mm_bind e
                refine mm_T.call (t := 50) (as := [(.ref 16)]) (f' := (111, [some (.ref 16), some (.int (I 16 7))], [])) rfl (tX4_readBoard (d + 99) n o1527.1 o1527.2 rv sp 19 w nw (Or.inr rfl) o1626 eo1626) (fun v h hq => ?_)
                obtain ⟨rfl, rfl⟩ := hq
                by_cases h1627 : o1626.1 = 0 ∨ o1626.1 = 1
                case neg => rw [if_neg h1627] at e; cases e
                rw [if_pos h1627] at e
                cases e
                first | exact mm_T.retZ (v := some (.int o1626.1)) rfl h1627 ⟨rfl, rfl⟩ | exact mm_T.retZ (v := some (.int out)) rfl h1627 ⟨rfl, rfl⟩
              · rw [if_neg h1569] at e
                by_cases h1628 : (I 16 7) = 4
                · rw [if_pos h1628] at e
                  refine mm_T.step (f' := (112, [some (.ref 16), some (.int (I 16 7))], [])) (h' := (107, o1527.1, o1527.2, mm_rf rv sp 19 w nw)) (by first | (rw [h1628]; rfl) | exact absurd h1628 (by decide)) ?_
                  refine mm_T.seg (f' := (113, [some (.ref 16), some (.int (I 16 7))], [(.ref 16)])) (h' := (107, o1527.1, o1527.2, mm_rf rv sp 19 w nw)) 1 rfl ?_
                  obtain ⟨o1641, eo1641, e⟩ := mm_bind e
                  refine mm_T.call (t := 51) (as := [(.ref 16)]) (f' := (116, [some (.ref 16), some (.int (I 16 7))], [])) rfl (tX4_readLoad (d + 99) n o1527.1 o1527.2 rv sp 19 w nw (Or.inr rfl) o1641 eo1641) (fun v h hq => ?_)
                  obtain ⟨rfl, rfl⟩ := hq
                  by_cases h1642 : o1641.1 = 0 ∨ o1641.1 = 1
                  case neg => rw [if_neg h1642] at e; cases e
                  rw [if_pos h1642] at e
                  cases e
                  first | exact mm_T.retZ (v := some (.int o1641.1)) rfl h1642 ⟨rfl, rfl⟩ | exact mm_T.retZ (v := some (.int out)) rfl h1642 ⟨rfl, rfl⟩
                · rw [if_neg h1628] at e
                  by_cases h1643 : (I 16 7) = 5
                  · rw [if_pos h1643] at e
                    refine mm_T.step (f' := (117, [some (.ref 16), some (.int (I 16 7))], [])) (h' := (107, o1527.1, o1527.2, mm_rf rv sp 19 w nw)) (by first | (rw [h1643]; rfl) | exact absurd h1643 (by decide)) ?_
                    refine mm_T.seg (f' := (119, [some (.ref 16), some (.int (I 16 7))], [(.int 0), (.ref 16)])) (h' := (107, o1527.1, o1527.2, mm_rf rv sp 19 w nw)) 2 rfl ?_
                    obtain ⟨o1906, eo1906, e⟩ := mm_bind e
                    refine mm_T.call (t := 54) (as := [(.ref 16), (.int 0)]) (f' := (122, [some (.ref 16), some (.int (I 16 7))], [])) rfl (mm_T.deep (tX4_readAny (d + 99) n (fX4_readOne n 9) (tX4_readOne d n 9) 0 o1527.1 o1527.2 rv sp 19 w nw (Or.inr rfl) o1906 eo1906) (by omega)) (fun v h hq => ?_)
                    obtain ⟨rfl, rfl⟩ := hq
                    refine mm_T.br (c := o1906.1 = 0) (a := ((136, [some (.ref 16), some (.int (I 16 7))], []), (107, o1906.2.1, o1906.2.2, mm_rf rv sp 19 w nw))) (b := ((125, [some (.ref 16), some (.int (I 16 7))], []), (107, o1906.2.1, o1906.2.2, mm_rf rv sp 19 w nw))) rfl (fun h1907 => ?_) (fun h1907 => ?_)
                    · rw [if_pos h1907] at e
                      refine mm_T.seg (f' := (137, [some (.ref 16), some (.int (I 16 7))], [(.int 0)])) (h' := (107, o1906.2.1, o1906.2.2, mm_rf rv sp 19 w nw)) 1 rfl ?_
                      cases e
                      exact mm_T.ret rfl ⟨rfl, rfl⟩
                    · rw [if_neg h1907] at e
                      refine mm_T.seg (f' := (126, [some (.ref 16), some (.int (I 16 7))], [(.ref 16)])) (h' := (107, o1906.2.1, o1906.2.2, mm_rf rv sp 19 w nw)) 1 rfl ?_
                      obtain ⟨o1908, eo1908, e⟩ := mm_bind e
                      refine mm_T.call (t := 41) (as := [(.ref 16)]) (f' := (129, [some (.ref 16), some (.int (I 16 7))], [])) rfl (tX4_passEndOfLine (d + 100) n o1906.2.1 o1906.2.2 rv sp 19 w nw o1908 eo1908) (fun v h hq => ?_)
                      obtain ⟨rfl, rfl⟩ := hq
                      refine mm_T.br (c := o1908.1 = 0) (a := ((136, [some (.ref 16), some (.int (I 16 7))], []), (107, o1908.2.1, o1908.2.2, mm_rf rv sp 19 w nw))) (b := ((132, [some (.ref 16), some (.int (I 16 7))], []), (107, o1908.2.1, o1908.2.2, mm_rf rv sp 19 w nw))) rfl (fun h1909 => ?_) (fun h1909 => ?_)
                      · rw [if_pos h1909] at e
                        refine mm_T.seg (f' := (137, [some (.ref 16), some (.int (I 16 7))], [(.int 0)])) (h' := (107, o1908.2.1, o1908.2.2, mm_rf rv sp 19 w nw)) 1 rfl ?_
                        cases e
                        exact mm_T.ret rfl ⟨rfl, rfl⟩
                      · rw [if_neg h1909] at e
                        refine mm_T.seg (f' := (137, [some (.ref 16), some (.int (I 16 7))], [(.int 1)])) (h' := (107, o1908.2.1, o1908.2.2, mm_rf rv sp 19 w nw)) 2 rfl ?_
                        cases e
                        exact mm_T.ret rfl ⟨rfl, rfl⟩
                  · rw [if_neg h1643] at e
                    by_cases h1910 : (I 16 7) = 6
                    · rw [if_pos h1910] at e
                      refine mm_T.step (f' := (138, [some (.ref 16), some (.int (I 16 7))], [])) (h' := (107, o1527.1, o1527.2, mm_rf rv sp 19 w nw)) (by first | (rw [h1910]; rfl) | exact absurd h1910 (by decide)) ?_
                      refine mm_T.seg (f' := (139, [some (.ref 16), some (.int (I 16 7))], [(.ref 16)])) (h' := (107, o1527.1, o1527.2, mm_rf rv sp 19 w nw)) 1 rfl ?_
                      obtain ⟨o1915, eo1915, e⟩ := mm_bind e
                      refine mm_T.call (t := 52) (as := [(.ref 16)]) (f' := (142, [some (.ref 16), some (.int (I 16 7))], [])) rfl (tX4_readFlood (d + 99) n o1527.1 o1527.2 rv sp 19 w nw (Or.inr rfl) o1915 eo1915) (fun v h hq => ?_)
                      obtain ⟨rfl, rfl⟩ := hq
                      by_cases h1916 : o1915.1 = 0 ∨ o1915.1 = 1
                      case neg => rw [if_neg h1916] at e; cases e
                      rw [if_pos h1916] at e
                      cases e
                      first | exact mm_T.retZ (v := some (.int o1915.1)) rfl h1916 ⟨rfl, rfl⟩ | exact mm_T.retZ (v := some (.int out)) rfl h1916 ⟨rfl, rfl⟩
                    · rw [if_neg h1910] at e
                      refine mm_T.tabs (lo := 0) (hi := 6) (y := ((143, [some (.ref 16), some (.int (I 16 7))], []), (107, o1527.1, o1527.2, mm_rf rv sp 19 w nw))) rfl (mm_swo (0) (6) (I 16 7) [0, 1, 2, 3, 4, 5, 6] (by decide) (by intro z hz; simp only [List.mem_cons, List.not_mem_nil, or_false] at hz; rcases hz with rfl | rfl | rfl | rfl | rfl | rfl | rfl <;> first | assumption | decide)) ?_
                      refine mm_T.seg (f' := (144, [some (.ref 16), some (.int (I 16 7))], [(.ref 16)])) (h' := (107, o1527.1, o1527.2, mm_rf rv sp 19 w nw)) 1 rfl ?_
                      obtain ⟨o1921, eo1921, e⟩ := mm_bind e
                      refine mm_T.call (t := 53) (as := [(.ref 16)]) (f' := (147, [some (.ref 16), some (.int (I 16 7))], [])) rfl (tX4_readDraw (d + 99) n o1527.1 o1527.2 rv sp 19 w nw (Or.inr rfl) o1921 eo1921) (fun v h hq => ?_)
                      obtain ⟨rfl, rfl⟩ := hq
                      by_cases h1922 : o1921.1 = 0 ∨ o1921.1 = 1
                      case neg => rw [if_neg h1922] at e; cases e
                      rw [if_pos h1922] at e
                      cases e
                      first | exact mm_T.retZ (v := some (.int o1921.1)) rfl h1922 ⟨rfl, rfl⟩ | exact mm_T.retZ (v := some (.int out)) rfl h1922 ⟨rfl, rfl⟩
    · rw [if_neg h1508] at e
      refine mm_T.seg (f' := (19, [some (.ref 16), some (.int (-1))], [(.int (-1)), (.ref 16)])) (h' := (107, I, J, mm_rf rv sp 19 w nw)) 4 rfl ?_
      obtain ⟨g245, hg245⟩ : ∃ z, fX4_mayBegin (-1) I 19 = z := ⟨_, rfl⟩
      try rw [hg245] at e
      refine mm_T.call (t := 45) (as := [(.ref 16), (.int (-1))]) (f' := (22, [some (.ref 16), some (.int (-1))], [])) rfl (tX4_mayBegin (d + 105) (-1) I J rv sp 19 w nw (Or.inr rfl) g245 hg245) (fun v h hq => ?_)
      obtain ⟨rfl, rfl⟩ := hq
      refine mm_T.br (c := g245 = 0) (a := ((25, [some (.ref 16), some (.int (-1))], []), (107, I, J, mm_rf rv sp 19 w nw))) (b := ((31, [some (.ref 16), some (.int (-1))], []), (107, I, J, mm_rf rv sp 19 w nw))) rfl (fun h1923 => ?_) (fun h1923 => ?_)
      · rw [if_pos h1923] at e
        refine mm_T.seg (f' := (27, [some (.ref 16), some (.int (-1))], [(.int 2), (.ref 16)])) (h' := (107, I, J, mm_rf rv sp 19 w nw)) 2 rfl ?_
        obtain ⟨g246, hg246⟩ : ∃ z, fX4_refuse 2 I = z := ⟨_, rfl⟩
        try rw [hg246] at e
        refine mm_T.call (t := 30) (as := [(.ref 16), (.int 2)]) (f' := (30, [some (.ref 16), some (.int (-1))], [])) rfl (tX4_refuse (d + 105) 2 I J rv sp 19 w nw g246 hg246) (fun v h hq => ?_)
        obtain ⟨rfl, rfl⟩ := hq
        by_cases h1924 : g246.1 = 0 ∨ g246.1 = 1
        case neg => rw [if_neg h1924] at e; cases e
        rw [if_pos h1924] at e
        cases e
        first | exact mm_T.retZ (v := some (.int g246.1)) rfl h1924 ⟨rfl, rfl⟩ | exact mm_T.retZ (v := some (.int out)) rfl h1924 ⟨rfl, rfl⟩
      · rw [if_neg h1923] at e
        refine mm_T.seg (f' := (44, [some (.ref 16), some (.int (-1))], [(.ref 16)])) (h' := (107, (mm_up I 16 9 ((I 16 9) ||| ((1 : Int32) <<< (((-1) : Int32) &&& 31)))), J, mm_rf rv sp 19 w nw)) 9 rfl ?_
        obtain ⟨o1925, eo1925, e⟩ := mm_bind e
        refine mm_T.call (t := 34) (as := [(.ref 16)]) (f' := (47, [some (.ref 16), some (.int (-1))], [])) rfl (tX4_advance (d + 101) n (mm_up I 16 9 ((I 16 9) ||| ((1 : Int32) <<< (((-1) : Int32) &&& 31)))) J rv sp 19 w nw o1925 eo1925) (fun v h hq => ?_)
        obtain ⟨rfl, rfl⟩ := hq
        refine mm_T.seg (f' := (48, [some (.ref 16), some (.int (-1))], [(.int (-1))])) (h' := (107, o1925.1, o1925.2, mm_rf rv sp 19 w nw)) 1 rfl ?_
        by_cases h1926 : (-1) = 0
        · rw [if_pos h1926] at e
          refine mm_T.step (f' := (92, [some (.ref 16), some (.int (-1))], [])) (h' := (107, o1925.1, o1925.2, mm_rf rv sp 19 w nw)) (by first | (rw [h1926]; rfl) | exact absurd h1926 (by decide)) ?_
          refine mm_T.seg (f' := (93, [some (.ref 16), some (.int (-1))], [(.ref 16)])) (h' := (107, o1925.1, o1925.2, mm_rf rv sp 19 w nw)) 1 rfl ?_
          obtain ⟨o1927, eo1927, e⟩ := mm_bind e
          refine mm_T.call (t := 46) (as := [(.ref 16)]) (f' := (96, [some (.ref 16), some (.int (-1))], [])) rfl (tX4_readWater (d + 99) n o1925.1 o1925.2 rv sp 19 w nw (Or.inr rfl) o1927 eo1927) (fun v h hq => ?_)
          obtain ⟨rfl, rfl⟩ := hq
          by_cases h1928 : o1927.1 = 0 ∨ o1927.1 = 1
          case neg => rw [if_neg h1928] at e; cases e
          rw [if_pos h1928] at e
          cases e
          first | exact mm_T.retZ (v := some (.int o1927.1)) rfl h1928 ⟨rfl, rfl⟩ | exact mm_T.retZ (v := some (.int out)) rfl h1928 ⟨rfl, rfl⟩
        · rw [if_neg h1926] at e
          by_cases h1929 : (-1) = 1
          · rw [if_pos h1929] at e
            refine mm_T.step (f' := (97, [some (.ref 16), some (.int (-1))], [])) (h' := (107, o1925.1, o1925.2, mm_rf rv sp 19 w nw)) (by first | (rw [h1929]; rfl) | exact absurd h1929 (by decide)) ?_
            refine mm_T.seg (f' := (98, [some (.ref 16), some (.int (-1))], [(.ref 16)])) (h' := (107, o1925.1, o1925.2, mm_rf rv sp 19 w nw)) 1 rfl ?_
            obtain ⟨o1930, eo1930, e⟩ := mm_bind e
            refine mm_T.call (t := 47) (as := [(.ref 16)]) (f' := (101, [some (.ref 16), some (.int (-1))], [])) rfl (tX4_readCurrent (d + 99) n o1925.1 o1925.2 rv sp 19 w nw (Or.inr rfl) o1930 eo1930) (fun v h hq => ?_)
            obtain ⟨rfl, rfl⟩ := hq
            by_cases h1931 : o1930.1 = 0 ∨ o1930.1 = 1
            case neg => rw [if_neg h1931] at e; cases e
            rw [if_pos h1931] at e
            cases e
            first | exact mm_T.retZ (v := some (.int o1930.1)) rfl h1931 ⟨rfl, rfl⟩ | exact mm_T.retZ (v := some (.int out)) rfl h1931 ⟨rfl, rfl⟩
          · rw [if_neg h1929] at e
            by_cases h1932 : (-1) = 2
            · rw [if_pos h1932] at e
              refine mm_T.step (f' := (102, [some (.ref 16), some (.int (-1))], [])) (h' := (107, o1925.1, o1925.2, mm_rf rv sp 19 w nw)) (by first | (rw [h1932]; rfl) | exact absurd h1932 (by decide)) ?_
              refine mm_T.seg (f' := (103, [some (.ref 16), some (.int (-1))], [(.ref 16)])) (h' := (107, o1925.1, o1925.2, mm_rf rv sp 19 w nw)) 1 rfl ?_
              obtain ⟨o1933, eo1933, e⟩ := mm_bind e
              refine mm_T.call (t := 48) (as := [(.ref 16)]) (f' := (106, [some (.ref 16), some (.int (-1))], [])) rfl (tX4_readIron (d + 99) n o1925.1 o1925.2 rv sp 19 w nw (Or.inr rfl) o1933 eo1933) (fun v h hq => ?_)
              obtain ⟨rfl, rfl⟩ := hq
              by_cases h1934 : o1933.1 = 0 ∨ o1933.1 = 1
              case neg => rw [if_neg h1934] at e; cases e
              rw [if_pos h1934] at e
              cases e
              first | exact mm_T.retZ (v := some (.int o1933.1)) rfl h1934 ⟨rfl, rfl⟩ | exact mm_T.retZ (v := some (.int out)) rfl h1934 ⟨rfl, rfl⟩
            · rw [if_neg h1932] at e
              by_cases h1935 : (-1) = 3
              · rw [if_pos h1935] at e
                refine mm_T.step (f' := (107, [some (.ref 16), some (.int (-1))], [])) (h' := (107, o1925.1, o1925.2, mm_rf rv sp 19 w nw)) (by first | (rw [h1935]; rfl) | exact absurd h1935 (by decide)) ?_
                refine mm_T.seg (f' := (108, [some (.ref 16), some (.int (-1))], [(.ref 16)])) (h' := (107, o1925.1, o1925.2, mm_rf rv sp 19 w nw)) 1 rfl ?_
                obtain ⟨o1936, eo1936, e⟩ := mm_bind e
                refine mm_T.call (t := 50) (as := [(.ref 16)]) (f' := (111, [some (.ref 16), some (.int (-1))], [])) rfl (tX4_readBoard (d + 99) n o1925.1 o1925.2 rv sp 19 w nw (Or.inr rfl) o1936 eo1936) (fun v h hq => ?_)
                obtain ⟨rfl, rfl⟩ := hq
                by_cases h1937 : o1936.1 = 0 ∨ o1936.1 = 1
                case neg => rw [if_neg h1937] at e; cases e
                rw [if_pos h1937] at e
                cases e
                first | exact mm_T.retZ (v := some (.int o1936.1)) rfl h1937 ⟨rfl, rfl⟩ | exact mm_T.retZ (v := some (.int out)) rfl h1937 ⟨rfl, rfl⟩
              · rw [if_neg h1935] at e
                by_cases h1938 : (-1) = 4
                · rw [if_pos h1938] at e
                  refine mm_T.step (f' := (112, [some (.ref 16), some (.int (-1))], [])) (h' := (107, o1925.1, o1925.2, mm_rf rv sp 19 w nw)) (by first | (rw [h1938]; rfl) | exact absurd h1938 (by decide)) ?_
                  refine mm_T.seg (f' := (113, [some (.ref 16), some (.int (-1))], [(.ref 16)])) (h' := (107, o1925.1, o1925.2, mm_rf rv sp 19 w nw)) 1 rfl ?_
                  obtain ⟨o1939, eo1939, e⟩ := mm_bind e
                  refine mm_T.call (t := 51) (as := [(.ref 16)]) (f' := (116, [some (.ref 16), some (.int (-1))], [])) rfl (tX4_readLoad (d + 99) n o1925.1 o1925.2 rv sp 19 w nw (Or.inr rfl) o1939 eo1939) (fun v h hq => ?_)
                  obtain ⟨rfl, rfl⟩ := hq
                  by_cases h1940 : o1939.1 = 0 ∨ o1939.1 = 1
                  case neg => rw [if_neg h1940] at e; cases e
                  rw [if_pos h1940] at e
                  cases e
                  first | exact mm_T.retZ (v := some (.int o1939.1)) rfl h1940 ⟨rfl, rfl⟩ | exact mm_T.retZ (v := some (.int out)) rfl h1940 ⟨rfl, rfl⟩
                · rw [if_neg h1938] at e
                  by_cases h1941 : (-1) = 5
                  · rw [if_pos h1941] at e
                    refine mm_T.step (f' := (117, [some (.ref 16), some (.int (-1))], [])) (h' := (107, o1925.1, o1925.2, mm_rf rv sp 19 w nw)) (by first | (rw [h1941]; rfl) | exact absurd h1941 (by decide)) ?_
                    refine mm_T.seg (f' := (119, [some (.ref 16), some (.int (-1))], [(.int 0), (.ref 16)])) (h' := (107, o1925.1, o1925.2, mm_rf rv sp 19 w nw)) 2 rfl ?_
                    obtain ⟨o1942, eo1942, e⟩ := mm_bind e
                    refine mm_T.call (t := 54) (as := [(.ref 16), (.int 0)]) (f' := (122, [some (.ref 16), some (.int (-1))], [])) rfl (mm_T.deep (tX4_readAny (d + 99) n (fX4_readOne n 9) (tX4_readOne d n 9) 0 o1925.1 o1925.2 rv sp 19 w nw (Or.inr rfl) o1942 eo1942) (by omega)) (fun v h hq => ?_)
                    obtain ⟨rfl, rfl⟩ := hq
                    refine mm_T.br (c := o1942.1 = 0) (a := ((136, [some (.ref 16), some (.int (-1))], []), (107, o1942.2.1, o1942.2.2, mm_rf rv sp 19 w nw))) (b := ((125, [some (.ref 16), some (.int (-1))], []), (107, o1942.2.1, o1942.2.2, mm_rf rv sp 19 w nw))) rfl (fun h1943 => ?_) (fun h1943 => ?_)
                    · rw [if_pos h1943] at e
                      refine mm_T.seg (f' := (137, [some (.ref 16), some (.int (-1))], [(.int 0)])) (h' := (107, o1942.2.1, o1942.2.2, mm_rf rv sp 19 w nw)) 1 rfl ?_
                      cases e
                      exact mm_T.ret rfl ⟨rfl, rfl⟩
                    · rw [if_neg h1943] at e
                      refine mm_T.seg (f' := (126, [some (.ref 16), some (.int (-1))], [(.ref 16)])) (h' := (107, o1942.2.1, o1942.2.2, mm_rf rv sp 19 w nw)) 1 rfl ?_
                      obtain ⟨o1944, eo1944, e⟩ := mm_bind e
                      refine mm_T.call (t := 41) (as := [(.ref 16)]) (f' := (129, [some (.ref 16), some (.int (-1))], [])) rfl (tX4_passEndOfLine (d + 100) n o1942.2.1 o1942.2.2 rv sp 19 w nw o1944 eo1944) (fun v h hq => ?_)
                      obtain ⟨rfl, rfl⟩ := hq
                      refine mm_T.br (c := o1944.1 = 0) (a := ((136, [some (.ref 16), some (.int (-1))], []), (107, o1944.2.1, o1944.2.2, mm_rf rv sp 19 w nw))) (b := ((132, [some (.ref 16), some (.int (-1))], []), (107, o1944.2.1, o1944.2.2, mm_rf rv sp 19 w nw))) rfl (fun h1945 => ?_) (fun h1945 => ?_)
                      · rw [if_pos h1945] at e
                        refine mm_T.seg (f' := (137, [some (.ref 16), some (.int (-1))], [(.int 0)])) (h' := (107, o1944.2.1, o1944.2.2, mm_rf rv sp 19 w nw)) 1 rfl ?_
                        cases e
                        exact mm_T.ret rfl ⟨rfl, rfl⟩
                      · rw [if_neg h1945] at e
                        refine mm_T.seg (f' := (137, [some (.ref 16), some (.int (-1))], [(.int 1)])) (h' := (107, o1944.2.1, o1944.2.2, mm_rf rv sp 19 w nw)) 2 rfl ?_
                        cases e
                        exact mm_T.ret rfl ⟨rfl, rfl⟩
                  · rw [if_neg h1941] at e
                    by_cases h1946 : (-1) = 6
                    · rw [if_pos h1946] at e
                      refine mm_T.step (f' := (138, [some (.ref 16), some (.int (-1))], [])) (h' := (107, o1925.1, o1925.2, mm_rf rv sp 19 w nw)) (by first | (rw [h1946]; rfl) | exact absurd h1946 (by decide)) ?_
                      refine mm_T.seg (f' := (139, [some (.ref 16), some (.int (-1))], [(.ref 16)])) (h' := (107, o1925.1, o1925.2, mm_rf rv sp 19 w nw)) 1 rfl ?_
                      obtain ⟨o1947, eo1947, e⟩ := mm_bind e
                      refine mm_T.call (t := 52) (as := [(.ref 16)]) (f' := (142, [some (.ref 16), some (.int (-1))], [])) rfl (tX4_readFlood (d + 99) n o1925.1 o1925.2 rv sp 19 w nw (Or.inr rfl) o1947 eo1947) (fun v h hq => ?_)
                      obtain ⟨rfl, rfl⟩ := hq
                      by_cases h1948 : o1947.1 = 0 ∨ o1947.1 = 1
                      case neg => rw [if_neg h1948] at e; cases e
                      rw [if_pos h1948] at e
                      cases e
                      first | exact mm_T.retZ (v := some (.int o1947.1)) rfl h1948 ⟨rfl, rfl⟩ | exact mm_T.retZ (v := some (.int out)) rfl h1948 ⟨rfl, rfl⟩
                    · rw [if_neg h1946] at e
                      refine mm_T.step (f' := (143, [some (.ref 16), some (.int (-1))], [])) (h' := (107, o1925.1, o1925.2, mm_rf rv sp 19 w nw)) rfl ?_
                      refine mm_T.seg (f' := (144, [some (.ref 16), some (.int (-1))], [(.ref 16)])) (h' := (107, o1925.1, o1925.2, mm_rf rv sp 19 w nw)) 1 rfl ?_
                      obtain ⟨o1949, eo1949, e⟩ := mm_bind e
                      refine mm_T.call (t := 53) (as := [(.ref 16)]) (f' := (147, [some (.ref 16), some (.int (-1))], [])) rfl (tX4_readDraw (d + 99) n o1925.1 o1925.2 rv sp 19 w nw (Or.inr rfl) o1949 eo1949) (fun v h hq => ?_)
                      obtain ⟨rfl, rfl⟩ := hq
                      by_cases h1950 : o1949.1 = 0 ∨ o1949.1 = 1
                      case neg => rw [if_neg h1950] at e; cases e
                      rw [if_pos h1950] at e
                      cases e
                      first | exact mm_T.retZ (v := some (.int o1949.1)) rfl h1950 ⟨rfl, rfl⟩ | exact mm_T.retZ (v := some (.int out)) rfl h1950 ⟨rfl, rfl⟩
