set_option maxRecDepth 100000 in
set_option maxHeartbeats 4000000 in
theorem tlX9_widestSet_L46 (d : Nat) (Q : Option Value → mm_H → Prop) : ∀ (n : Nat) (y2 : Int32) (y3 : Int32) (y4 : Int32) (y5 : Int32) (y6 : Int32) (I : Nat → Nat → Int32) (J : Nat → Nat → Int64) (rv sp rr w nw : Nat), (rv = 3 ∨ rv = 19) → ∀ (out : Int32), fX9_widestSet_L46 n y2 y3 y4 y5 y6 I rv = some out → mm_T none (d + 4) 132 (106, [none, none, none, none, some (.int out), none, none, none], []) (107, I, J, mm_rf rv sp rr w nw) Q → mm_T none (d + 4) 132 (46, [some (.ref 45), none, some (.int y2), some (.int y3), some (.int y4), some (.int y5), some (.int y6), none], []) (107, I, J, mm_rf rv sp rr w nw) Q := by
  intro n
  induction n with
  | zero =>
    intro y2 y3 y4 y5 y6 I J rv sp rr w nw hrv out e k
    rw [fX9_widestSet_L46] at e; cases e
  | succ n ih =>
    intro y2 y3 y4 y5 y6 I J rv sp rr w nw hrv out e k
    rcases hrv with rfl | rfl
    · rw [fX9_widestSet_L46] at e
      refine mm_T.seg (f' := (52, [some (.ref 45), none, some (.int y2), some (.int y3), some (.int y4), some (.int y5), some (.int y6), none], [(.ref 18), (.int y6)])) (h' := (107, I, J, mm_rf 3 sp rr w nw)) 3 rfl ?_
      refine mm_T.call (t := 115) (as := [(.ref 18)]) (f' := (55, [some (.ref 45), none, some (.int y2), some (.int y3), some (.int y4), some (.int y5), some (.int y6), none], [(.int y6)])) rfl (tX7_allLoads (d + 3) I J 3 sp rr w nw (Or.inl rfl) _ rfl) (fun v h hq => ?_)
      obtain ⟨rfl, rfl⟩ := hq
      refine mm_T.br (c := (fX7_allLoads I 3) < y6) (a := ((106, [some (.ref 45), none, some (.int y2), some (.int y3), some (.int y4), some (.int y5), some (.int y6), none], []), (107, I, J, mm_rf 3 sp rr w nw))) (b := ((58, [some (.ref 45), none, some (.int y2), some (.int y3), some (.int y4), some (.int y5), some (.int y6), none], []), (107, I, J, mm_rf 3 sp rr w nw))) rfl (fun h2113 => ?_) (fun h2113 => ?_)
      · rw [if_pos h2113] at e
        cases e
        refine mm_T.mask [false, false, false, false, true, false, false, false] ?_
        exact k
      · rw [if_neg h2113] at e
        refine mm_T.seg (f' := (64, [some (.ref 45), none, some (.int y2), some (.int y3), some (.int y4), some (.int y5), some (.int y6), none], [(.int (y6 &&& (y2 ^^^ (-1))))])) (h' := (107, I, J, mm_rf 3 sp rr w nw)) 5 rfl ?_
        refine mm_T.br (c := (y6 &&& (y2 ^^^ (-1))) = 0) (a := ((67, [some (.ref 45), none, some (.int y2), some (.int y3), some (.int y4), some (.int y5), some (.int y6), none], []), (107, I, J, mm_rf 3 sp rr w nw))) (b := ((76, [some (.ref 45), none, some (.int y2), some (.int y3), some (.int y4), some (.int y5), some (.int y6), none], []), (107, I, J, mm_rf 3 sp rr w nw))) rfl (fun h2114 => ?_) (fun h2114 => ?_)
        · rw [if_pos h2114] at e
          refine mm_T.seg (f' := (70, [some (.ref 45), none, some (.int y2), some (.int y3), some (.int y4), some (.int y5), some (.int y6), none], [(.int y6), (.ref 45)])) (h' := (107, I, J, mm_rf 3 sp rr w nw)) 2 rfl ?_
          obtain ⟨o2115, eo2115, e⟩ := mm_bind e
          refine mm_T.call (t := 131) (as := [(.ref 45), (.int y6)]) (f' := (73, [some (.ref 45), none, some (.int y2), some (.int y3), some (.int y4), some (.int y5), some (.int y6), none], [])) rfl (tX9_widthOf (d + 1) n y6 I J 3 sp rr w nw (Or.inl rfl) o2115 eo2115) (fun v h hq => ?_)
          obtain ⟨rfl, rfl⟩ := hq
          refine mm_T.seg (f' := (82, [some (.ref 45), none, some (.int y2), some (.int y3), some (.int y4), some (.int y5), some (.int y6), some (.int o2115)], [(.int y3), (.int o2115)])) (h' := (107, I, J, mm_rf 3 sp rr w nw)) 4 rfl ?_
          refine mm_T.br (c := y3 < o2115) (a := ((100, [some (.ref 45), none, some (.int y2), some (.int y3), some (.int y4), some (.int y5), some (.int y6), some (.int o2115)], []), (107, I, J, mm_rf 3 sp rr w nw))) (b := ((85, [some (.ref 45), none, some (.int y2), some (.int y3), some (.int y4), some (.int y5), some (.int y6), some (.int o2115)], []), (107, I, J, mm_rf 3 sp rr w nw))) rfl (fun h2116 => ?_) (fun h2116 => ?_)
          · rw [if_pos h2116] at e
            refine mm_T.seg (f' := (46, [some (.ref 45), none, some (.int y2), some (.int y3), some (.int y4), some (.int y5), some (.int (y6 + 1)), some (.int o2115)], [])) (h' := (107, I, J, mm_rf 3 sp rr w nw)) 2 rfl ?_
            refine mm_T.mask [true, false, true, true, true, true, true, false] ?_
            exact ih y2 y3 y4 y5 (y6 + 1) I J 3 sp rr w nw (Or.inl rfl) out e k
          · rw [if_neg h2116] at e
            refine mm_T.seg (f' := (89, [some (.ref 45), none, some (.int y2), some (.int y3), some (.int y4), some (.int y5), some (.int y6), some (.int o2115)], [(.int y5), (.int o2115)])) (h' := (107, I, J, mm_rf 3 sp rr w nw)) 2 rfl ?_
            refine mm_T.br (c := y5 < o2115) (a := ((92, [some (.ref 45), none, some (.int y2), some (.int y3), some (.int y4), some (.int y5), some (.int y6), some (.int o2115)], []), (107, I, J, mm_rf 3 sp rr w nw))) (b := ((100, [some (.ref 45), none, some (.int y2), some (.int y3), some (.int y4), some (.int y5), some (.int y6), some (.int o2115)], []), (107, I, J, mm_rf 3 sp rr w nw))) rfl (fun h2117 => ?_) (fun h2117 => ?_)
            · rw [if_pos h2117] at e
              refine mm_T.seg (f' := (46, [some (.ref 45), none, some (.int y2), some (.int y3), some (.int y6), some (.int o2115), some (.int (y6 + 1)), some (.int o2115)], [])) (h' := (107, I, J, mm_rf 3 sp rr w nw)) 6 rfl ?_
              refine mm_T.mask [true, false, true, true, true, true, true, false] ?_
              exact ih y2 y3 y6 o2115 (y6 + 1) I J 3 sp rr w nw (Or.inl rfl) out e k
            · rw [if_neg h2117] at e
              refine mm_T.seg (f' := (46, [some (.ref 45), none, some (.int y2), some (.int y3), some (.int y4), some (.int y5), some (.int (y6 + 1)), some (.int o2115)], [])) (h' := (107, I, J, mm_rf 3 sp rr w nw)) 2 rfl ?_
              refine mm_T.mask [true, false, true, true, true, true, true, false] ?_
              exact ih y2 y3 y4 y5 (y6 + 1) I J 3 sp rr w nw (Or.inl rfl) out e k
        · rw [if_neg h2114] at e
          refine mm_T.seg (f' := (82, [some (.ref 45), none, some (.int y2), some (.int y3), some (.int y4), some (.int y5), some (.int y6), some (.int 0)], [(.int y3), (.int 0)])) (h' := (107, I, J, mm_rf 3 sp rr w nw)) 4 rfl ?_
          refine mm_T.br (c := y3 < 0) (a := ((100, [some (.ref 45), none, some (.int y2), some (.int y3), some (.int y4), some (.int y5), some (.int y6), some (.int 0)], []), (107, I, J, mm_rf 3 sp rr w nw))) (b := ((85, [some (.ref 45), none, some (.int y2), some (.int y3), some (.int y4), some (.int y5), some (.int y6), some (.int 0)], []), (107, I, J, mm_rf 3 sp rr w nw))) rfl (fun h2118 => ?_) (fun h2118 => ?_)
          · rw [if_pos h2118] at e
            refine mm_T.seg (f' := (46, [some (.ref 45), none, some (.int y2), some (.int y3), some (.int y4), some (.int y5), some (.int (y6 + 1)), some (.int 0)], [])) (h' := (107, I, J, mm_rf 3 sp rr w nw)) 2 rfl ?_
            refine mm_T.mask [true, false, true, true, true, true, true, false] ?_
            exact ih y2 y3 y4 y5 (y6 + 1) I J 3 sp rr w nw (Or.inl rfl) out e k
          · rw [if_neg h2118] at e
            refine mm_T.seg (f' := (89, [some (.ref 45), none, some (.int y2), some (.int y3), some (.int y4), some (.int y5), some (.int y6), some (.int 0)], [(.int y5), (.int 0)])) (h' := (107, I, J, mm_rf 3 sp rr w nw)) 2 rfl ?_
            refine mm_T.br (c := y5 < 0) (a := ((92, [some (.ref 45), none, some (.int y2), some (.int y3), some (.int y4), some (.int y5), some (.int y6), some (.int 0)], []), (107, I, J, mm_rf 3 sp rr w nw))) (b := ((100, [some (.ref 45), none, some (.int y2), some (.int y3), some (.int y4), some (.int y5), some (.int y6), some (.int 0)], []), (107, I, J, mm_rf 3 sp rr w nw))) rfl (fun h2119 => ?_) (fun h2119 => ?_)
            · rw [if_pos h2119] at e
              refine mm_T.seg (f' := (46, [some (.ref 45), none, some (.int y2), some (.int y3), some (.int y6), some (.int 0), some (.int (y6 + 1)), some (.int 0)], [])) (h' := (107, I, J, mm_rf 3 sp rr w nw)) 6 rfl ?_
              refine mm_T.mask [true, false, true, true, true, true, true, false] ?_
              exact ih y2 y3 y6 0 (y6 + 1) I J 3 sp rr w nw (Or.inl rfl) out e k
            · rw [if_neg h2119] at e
              refine mm_T.seg (f' := (46, [some (.ref 45), none, some (.int y2), some (.int y3), some (.int y4), some (.int y5), some (.int (y6 + 1)), some (.int 0)], [])) (h' := (107, I, J, mm_rf 3 sp rr w nw)) 2 rfl ?_
              refine mm_T.mask [true, false, true, true, true, true, true, false] ?_
              exact ih y2 y3 y4 y5 (y6 + 1) I J 3 sp rr w nw (Or.inl rfl) out e k
    · rw [fX9_widestSet_L46] at e
      refine mm_T.seg (f' := (52, [some (.ref 45), none, some (.int y2), some (.int y3), some (.int y4), some (.int y5), some (.int y6), none], [(.ref 18), (.int y6)])) (h' := (107, I, J, mm_rf 19 sp rr w nw)) 3 rfl ?_
      refine mm_T.call (t := 115) (as := [(.ref 18)]) (f' := (55, [some (.ref 45), none, some (.int y2), some (.int y3), some (.int y4), some (.int y5), some (.int y6), none], [(.int y6)])) rfl (tX7_allLoads (d + 3) I J 19 sp rr w nw (Or.inr rfl) _ rfl) (fun v h hq => ?_)
      obtain ⟨rfl, rfl⟩ := hq
      refine mm_T.br (c := (fX7_allLoads I 19) < y6) (a := ((106, [some (.ref 45), none, some (.int y2), some (.int y3), some (.int y4), some (.int y5), some (.int y6), none], []), (107, I, J, mm_rf 19 sp rr w nw))) (b := ((58, [some (.ref 45), none, some (.int y2), some (.int y3), some (.int y4), some (.int y5), some (.int y6), none], []), (107, I, J, mm_rf 19 sp rr w nw))) rfl (fun h2113 => ?_) (fun h2113 => ?_)
      · rw [if_pos h2113] at e
        cases e
        refine mm_T.mask [false, false, false, false, true, false, false, false] ?_
        exact k
      · rw [if_neg h2113] at e
        refine mm_T.seg (f' := (64, [some (.ref 45), none, some (.int y2), some (.int y3), some (.int y4), some (.int y5), some (.int y6), none], [(.int (y6 &&& (y2 ^^^ (-1))))])) (h' := (107, I, J, mm_rf 19 sp rr w nw)) 5 rfl ?_
        refine mm_T.br (c := (y6 &&& (y2 ^^^ (-1))) = 0) (a := ((67, [some (.ref 45), none, some (.int y2), some (.int y3), some (.int y4), some (.int y5), some (.int y6), none], []), (107, I, J, mm_rf 19 sp rr w nw))) (b := ((76, [some (.ref 45), none, some (.int y2), some (.int y3), some (.int y4), some (.int y5), some (.int y6), none], []), (107, I, J, mm_rf 19 sp rr w nw))) rfl (fun h2114 => ?_) (fun h2114 => ?_)
        · rw [if_pos h2114] at e
          refine mm_T.seg (f' := (70, [some (.ref 45), none, some (.int y2), some (.int y3), some (.int y4), some (.int y5), some (.int y6), none], [(.int y6), (.ref 45)])) (h' := (107, I, J, mm_rf 19 sp rr w nw)) 2 rfl ?_
          obtain ⟨o2115, eo2115, e⟩ := mm_bind e
          refine mm_T.call (t := 131) (as := [(.ref 45), (.int y6)]) (f' := (73, [some (.ref 45), none, some (.int y2), some (.int y3), some (.int y4), some (.int y5), some (.int y6), none], [])) rfl (tX9_widthOf (d + 1) n y6 I J 19 sp rr w nw (Or.inr rfl) o2115 eo2115) (fun v h hq => ?_)
          obtain ⟨rfl, rfl⟩ := hq
          refine mm_T.seg (f' := (82, [some (.ref 45), none, some (.int y2), some (.int y3), some (.int y4), some (.int y5), some (.int y6), some (.int o2115)], [(.int y3), (.int o2115)])) (h' := (107, I, J, mm_rf 19 sp rr w nw)) 4 rfl ?_
          refine mm_T.br (c := y3 < o2115) (a := ((100, [some (.ref 45), none, some (.int y2), some (.int y3), some (.int y4), some (.int y5), some (.int y6), some (.int o2115)], []), (107, I, J, mm_rf 19 sp rr w nw))) (b := ((85, [some (.ref 45), none, some (.int y2), some (.int y3), some (.int y4), some (.int y5), some (.int y6), some (.int o2115)], []), (107, I, J, mm_rf 19 sp rr w nw))) rfl (fun h2116 => ?_) (fun h2116 => ?_)
          · rw [if_pos h2116] at e
            refine mm_T.seg (f' := (46, [some (.ref 45), none, some (.int y2), some (.int y3), some (.int y4), some (.int y5), some (.int (y6 + 1)), some (.int o2115)], [])) (h' := (107, I, J, mm_rf 19 sp rr w nw)) 2 rfl ?_
            refine mm_T.mask [true, false, true, true, true, true, true, false] ?_
            exact ih y2 y3 y4 y5 (y6 + 1) I J 19 sp rr w nw (Or.inr rfl) out e k
          · rw [if_neg h2116] at e
            refine mm_T.seg (f' := (89, [some (.ref 45), none, some (.int y2), some (.int y3), some (.int y4), some (.int y5), some (.int y6), some (.int o2115)], [(.int y5), (.int o2115)])) (h' := (107, I, J, mm_rf 19 sp rr w nw)) 2 rfl ?_
            refine mm_T.br (c := y5 < o2115) (a := ((92, [some (.ref 45), none, some (.int y2), some (.int y3), some (.int y4), some (.int y5), some (.int y6), some (.int o2115)], []), (107, I, J, mm_rf 19 sp rr w nw))) (b := ((100, [some (.ref 45), none, some (.int y2), some (.int y3), some (.int y4), some (.int y5), some (.int y6), some (.int o2115)], []), (107, I, J, mm_rf 19 sp rr w nw))) rfl (fun h2117 => ?_) (fun h2117 => ?_)
            · rw [if_pos h2117] at e
              refine mm_T.seg (f' := (46, [some (.ref 45), none, some (.int y2), some (.int y3), some (.int y6), some (.int o2115), some (.int (y6 + 1)), some (.int o2115)], [])) (h' := (107, I, J, mm_rf 19 sp rr w nw)) 6 rfl ?_
              refine mm_T.mask [true, false, true, true, true, true, true, false] ?_
              exact ih y2 y3 y6 o2115 (y6 + 1) I J 19 sp rr w nw (Or.inr rfl) out e k
            · rw [if_neg h2117] at e
              refine mm_T.seg (f' := (46, [some (.ref 45), none, some (.int y2), some (.int y3), some (.int y4), some (.int y5), some (.int (y6 + 1)), some (.int o2115)], [])) (h' := (107, I, J, mm_rf 19 sp rr w nw)) 2 rfl ?_
              refine mm_T.mask [true, false, true, true, true, true, true, false] ?_
              exact ih y2 y3 y4 y5 (y6 + 1) I J 19 sp rr w nw (Or.inr rfl) out e k
        · rw [if_neg h2114] at e
          refine mm_T.seg (f' := (82, [some (.ref 45), none, some (.int y2), some (.int y3), some (.int y4), some (.int y5), some (.int y6), some (.int 0)], [(.int y3), (.int 0)])) (h' := (107, I, J, mm_rf 19 sp rr w nw)) 4 rfl ?_
          refine mm_T.br (c := y3 < 0) (a := ((100, [some (.ref 45), none, some (.int y2), some (.int y3), some (.int y4), some (.int y5), some (.int y6), some (.int 0)], []), (107, I, J, mm_rf 19 sp rr w nw))) (b := ((85, [some (.ref 45), none, some (.int y2), some (.int y3), some (.int y4), some (.int y5), some (.int y6), some (.int 0)], []), (107, I, J, mm_rf 19 sp rr w nw))) rfl (fun h2118 => ?_) (fun h2118 => ?_)
          · rw [if_pos h2118] at e
            refine mm_T.seg (f' := (46, [some (.ref 45), none, some (.int y2), some (.int y3), some (.int y4), some (.int y5), some (.int (y6 + 1)), some (.int 0)], [])) (h' := (107, I, J, mm_rf 19 sp rr w nw)) 2 rfl ?_
            refine mm_T.mask [true, false, true, true, true, true, true, false] ?_
            exact ih y2 y3 y4 y5 (y6 + 1) I J 19 sp rr w nw (Or.inr rfl) out e k
          · rw [if_neg h2118] at e
            refine mm_T.seg (f' := (89, [some (.ref 45), none, some (.int y2), some (.int y3), some (.int y4), some (.int y5), some (.int y6), some (.int 0)], [(.int y5), (.int 0)])) (h' := (107, I, J, mm_rf 19 sp rr w nw)) 2 rfl ?_
            refine mm_T.br (c := y5 < 0) (a := ((92, [some (.ref 45), none, some (.int y2), some (.int y3), some (.int y4), some (.int y5), some (.int y6), some (.int 0)], []), (107, I, J, mm_rf 19 sp rr w nw))) (b := ((100, [some (.ref 45), none, some (.int y2), some (.int y3), some (.int y4), some (.int y5), some (.int y6), some (.int 0)], []), (107, I, J, mm_rf 19 sp rr w nw))) rfl (fun h2119 => ?_) (fun h2119 => ?_)
            · rw [if_pos h2119] at e
              refine mm_T.seg (f' := (46, [some (.ref 45), none, some (.int y2), some (.int y3), some (.int y6), some (.int 0), some (.int (y6 + 1)), some (.int 0)], [])) (h' := (107, I, J, mm_rf 19 sp rr w nw)) 6 rfl ?_
              refine mm_T.mask [true, false, true, true, true, true, true, false] ?_
              exact ih y2 y3 y6 0 (y6 + 1) I J 19 sp rr w nw (Or.inr rfl) out e k
            · rw [if_neg h2119] at e
              refine mm_T.seg (f' := (46, [some (.ref 45), none, some (.int y2), some (.int y3), some (.int y4), some (.int y5), some (.int (y6 + 1)), some (.int 0)], [])) (h' := (107, I, J, mm_rf 19 sp rr w nw)) 2 rfl ?_
              refine mm_T.mask [true, false, true, true, true, true, true, false] ?_
              exact ih y2 y3 y4 y5 (y6 + 1) I J 19 sp rr w nw (Or.inr rfl) out e k
set_option maxRecDepth 100000 in
set_option maxHeartbeats 4000000 in
theorem tX9_widestSet (d n : Nat) (x1 : Int32) (I : Nat → Nat → Int32) (J : Nat → Nat → Int64) (rv sp rr w nw : Nat) (hrv : rv = 3 ∨ rv = 19) (out : Int32) (e : fX9_widestSet n x1 I rv = some out) : mm_T none (d + 4) 132 (mm_ent 132 [(.ref 45), (.int x1)]) (107, I, J, mm_rf rv sp rr w nw) (fun v h => v = some (.int out) ∧ h = (107, I, J, mm_rf rv sp rr w nw)) := by
  rcases hrv with rfl | rfl
  · unfold fX9_widestSet at e
    refine mm_T.seg (f' := (9, [some (.ref 45), some (.int x1), none, none, none, none, none, none], [(.int x1), (.ref 18), (.ref 18)])) (h' := (107, I, J, mm_rf 3 sp rr w nw)) 5 rfl ?_
    refine mm_T.call (t := 120) (as := [(.ref 18), (.int x1)]) (f' := (12, [some (.ref 45), some (.int x1), none, none, none, none, none, none], [(.ref 18)])) rfl (tX7_bankOf (d + 0) x1 I J 3 sp rr w nw _ rfl) (fun v h hq => ?_)
    obtain ⟨rfl, rfl⟩ := hq
    obtain ⟨o2104, eo2104, e⟩ := mm_bind e
    refine mm_T.call (t := 116) (as := [(.ref 18), (.int (fX7_bankOf x1 I))]) (f' := (15, [some (.ref 45), some (.int x1), none, none, none, none, none, none], [])) rfl (tX7_loadsAt (d + 1) n (fX7_bankOf x1 I) I J 3 sp rr w nw (Or.inl rfl) o2104 eo2104) (fun v h hq => ?_)
    obtain ⟨rfl, rfl⟩ := hq
    refine mm_T.seg (f' := (24, [some (.ref 45), some (.int x1), some (.int o2104), none, none, none, none, none], [(.int x1), (.ref 3)])) (h' := (107, I, J, mm_rf 3 sp rr w nw)) 5 rfl ?_
    refine mm_T.call (t := 77) (as := [(.ref 3), (.int x1)]) (f' := (27, [some (.ref 45), some (.int x1), some (.int o2104), none, none, none, none, none], [])) rfl (tX5_wideOf (d + 2) x1 3 I J 3 sp rr w nw (Or.inl rfl) _ rfl) (fun v h hq => ?_)
    obtain ⟨rfl, rfl⟩ := hq
    refine mm_T.seg (f' := (32, [some (.ref 45), some (.int x1), some (.int o2104), none, none, none, none, none], [(.int x1), (.ref 18), (.int (fX5_wideOf x1 3 I))])) (h' := (107, I, J, mm_rf 3 sp rr w nw)) 3 rfl ?_
    obtain ⟨o2105, eo2105, e⟩ := mm_bind e
    refine mm_T.call (t := 118) (as := [(.ref 18), (.int x1)]) (f' := (35, [some (.ref 45), some (.int x1), some (.int o2104), none, none, none, none, none], [(.int (fX5_wideOf x1 3 I))])) rfl (tX7_burdenOf (d + 1) n x1 I J 3 sp rr w nw (Or.inl rfl) o2105 eo2105) (fun v h hq => ?_)
    obtain ⟨rfl, rfl⟩ := hq
    refine mm_T.seg (f' := (46, [some (.ref 45), some (.int x1), some (.int o2104), some (.int ((fX5_wideOf x1 3 I) - o2105)), some (.int 0), some (.int 0), some (.int 1), none], [])) (h' := (107, I, J, mm_rf 3 sp rr w nw)) 8 rfl ?_
    refine mm_T.mask [true, false, true, true, true, true, true, false] ?_
    obtain ⟨o2120, eo2120, e⟩ := mm_bind e
    refine tlX9_widestSet_L46 d _ n o2104 ((fX5_wideOf x1 3 I) - o2105) 0 0 1 I J 3 sp rr w nw (Or.inl rfl) o2120 eo2120 ?_
    refine mm_T.seg (f' := (108, [none, none, none, none, some (.int o2120), none, none, none], [(.int o2120)])) (h' := (107, I, J, mm_rf 3 sp rr w nw)) 1 rfl ?_
    cases e
    exact mm_T.ret rfl ⟨rfl, rfl⟩
  · unfold fX9_widestSet at e
    refine mm_T.seg (f' := (9, [some (.ref 45), some (.int x1), none, none, none, none, none, none], [(.int x1), (.ref 18), (.ref 18)])) (h' := (107, I, J, mm_rf 19 sp rr w nw)) 5 rfl ?_
    refine mm_T.call (t := 120) (as := [(.ref 18), (.int x1)]) (f' := (12, [some (.ref 45), some (.int x1), none, none, none, none, none, none], [(.ref 18)])) rfl (tX7_bankOf (d + 0) x1 I J 19 sp rr w nw _ rfl) (fun v h hq => ?_)
    obtain ⟨rfl, rfl⟩ := hq
    obtain ⟨o2104, eo2104, e⟩ := mm_bind e
    refine mm_T.call (t := 116) (as := [(.ref 18), (.int (fX7_bankOf x1 I))]) (f' := (15, [some (.ref 45), some (.int x1), none, none, none, none, none, none], [])) rfl (tX7_loadsAt (d + 1) n (fX7_bankOf x1 I) I J 19 sp rr w nw (Or.inr rfl) o2104 eo2104) (fun v h hq => ?_)
    obtain ⟨rfl, rfl⟩ := hq
    refine mm_T.seg (f' := (24, [some (.ref 45), some (.int x1), some (.int o2104), none, none, none, none, none], [(.int x1), (.ref 19)])) (h' := (107, I, J, mm_rf 19 sp rr w nw)) 5 rfl ?_
    refine mm_T.call (t := 77) (as := [(.ref 19), (.int x1)]) (f' := (27, [some (.ref 45), some (.int x1), some (.int o2104), none, none, none, none, none], [])) rfl (tX5_wideOf (d + 2) x1 19 I J 19 sp rr w nw (Or.inr rfl) _ rfl) (fun v h hq => ?_)
    obtain ⟨rfl, rfl⟩ := hq
    refine mm_T.seg (f' := (32, [some (.ref 45), some (.int x1), some (.int o2104), none, none, none, none, none], [(.int x1), (.ref 18), (.int (fX5_wideOf x1 19 I))])) (h' := (107, I, J, mm_rf 19 sp rr w nw)) 3 rfl ?_
    obtain ⟨o2105, eo2105, e⟩ := mm_bind e
    refine mm_T.call (t := 118) (as := [(.ref 18), (.int x1)]) (f' := (35, [some (.ref 45), some (.int x1), some (.int o2104), none, none, none, none, none], [(.int (fX5_wideOf x1 19 I))])) rfl (tX7_burdenOf (d + 1) n x1 I J 19 sp rr w nw (Or.inr rfl) o2105 eo2105) (fun v h hq => ?_)
    obtain ⟨rfl, rfl⟩ := hq
    refine mm_T.seg (f' := (46, [some (.ref 45), some (.int x1), some (.int o2104), some (.int ((fX5_wideOf x1 19 I) - o2105)), some (.int 0), some (.int 0), some (.int 1), none], [])) (h' := (107, I, J, mm_rf 19 sp rr w nw)) 8 rfl ?_
    refine mm_T.mask [true, false, true, true, true, true, true, false] ?_
    obtain ⟨o2120, eo2120, e⟩ := mm_bind e
    refine tlX9_widestSet_L46 d _ n o2104 ((fX5_wideOf x1 19 I) - o2105) 0 0 1 I J 19 sp rr w nw (Or.inr rfl) o2120 eo2120 ?_
    refine mm_T.seg (f' := (108, [none, none, none, none, some (.int o2120), none, none, none], [(.int o2120)])) (h' := (107, I, J, mm_rf 19 sp rr w nw)) 1 rfl ?_
    cases e
    exact mm_T.ret rfl ⟨rfl, rfl⟩
set_option maxRecDepth 100000 in
set_option maxHeartbeats 4000000 in
theorem tlX9_hasRoomFor_L2 (d : Nat) (Q : Option Value → mm_H → Prop) : ∀ (n : Nat) (y1 : Int32) (y2 : Int32) (I : Nat → Nat → Int32) (J : Nat → Nat → Int64) (rv sp rr w nw : Nat), ∀ (out : (Int32 ⊕ (Unit))), fX9_hasRoomFor_L2 n y1 y2 I = some out → (∀ (r : Int32), out = .inl r → Q (some (.int r)) (107, I, J, mm_rf rv sp rr w nw)) → (∀ (y : Unit), out = .inr y → mm_T none (d + 1) 136 (30, [none, none, none], []) (107, I, J, mm_rf rv sp rr w nw) Q) → mm_T none (d + 1) 136 (2, [some (.ref 45), some (.int y1), some (.int y2)], []) (107, I, J, mm_rf rv sp rr w nw) Q := by
  intro n
  induction n with
  | zero =>
    intro y1 y2 I J rv sp rr w nw out e kr ke
    rw [fX9_hasRoomFor_L2] at e; cases e
  | succ n ih =>
    intro y1 y2 I J rv sp rr w nw out e kr ke
    rw [fX9_hasRoomFor_L2] at e
    refine mm_T.seg (f' := (7, [some (.ref 45), some (.int y1), some (.int y2)], [(.int (I 45 4)), (.int y2)])) (h' := (107, I, J, mm_rf rv sp rr w nw)) 3 rfl ?_
    refine mm_T.br (c := y2 < (I 45 4)) (a := ((10, [some (.ref 45), some (.int y1), some (.int y2)], []), (107, I, J, mm_rf rv sp rr w nw))) (b := ((30, [some (.ref 45), some (.int y1), some (.int y2)], []), (107, I, J, mm_rf rv sp rr w nw))) rfl (fun h2125 => ?_) (fun h2125 => ?_)
    · rw [if_pos h2125] at e
      refine mm_T.seg (f' := (16, [some (.ref 45), some (.int y1), some (.int y2)], [(.int y2), (.ref 46), (.int y1)])) (h' := (107, I, J, mm_rf rv sp rr w nw)) 4 rfl ?_
      refine mm_T.call (t := 204) (as := [(.ref 46), (.int y2)]) (f' := (19, [some (.ref 45), some (.int y1), some (.int y2)], [(.int y1)])) rfl (t_pick _ 46 7 y2 I J (mm_rf rv sp rr w nw) rfl rfl) (fun v h hq => ?_)
      obtain ⟨rfl, rfl⟩ := hq
      refine mm_T.br (c := (mf_pick I 46 7 y2) < y1) (a := ((24, [some (.ref 45), some (.int y1), some (.int y2)], []), (107, I, J, mm_rf rv sp rr w nw))) (b := ((22, [some (.ref 45), some (.int y1), some (.int y2)], []), (107, I, J, mm_rf rv sp rr w nw))) rfl (fun h2126 => ?_) (fun h2126 => ?_)
      · rw [if_pos h2126] at e
        refine mm_T.seg (f' := (2, [some (.ref 45), some (.int y1), some (.int (y2 + 1))], [])) (h' := (107, I, J, mm_rf rv sp rr w nw)) 2 rfl ?_
        refine mm_T.mask [true, true, true] ?_
        exact ih y1 (y2 + 1) I J rv sp rr w nw out e kr ke
      · rw [if_neg h2126] at e
        refine mm_T.seg (f' := (23, [some (.ref 45), some (.int y1), some (.int y2)], [(.int 1)])) (h' := (107, I, J, mm_rf rv sp rr w nw)) 1 rfl ?_
        cases e
        exact mm_T.ret rfl (kr _ rfl)
    · rw [if_neg h2125] at e
      cases e
      refine mm_T.mask [false, false, false] ?_
      exact ke _ rfl
set_option maxRecDepth 100000 in
set_option maxHeartbeats 4000000 in
theorem tX9_hasRoomFor (d n : Nat) (x1 : Int32) (I : Nat → Nat → Int32) (J : Nat → Nat → Int64) (rv sp rr w nw : Nat) (out : Int32) (e : fX9_hasRoomFor n x1 I = some out) : mm_T none (d + 1) 136 (mm_ent 136 [(.ref 45), (.int x1)]) (107, I, J, mm_rf rv sp rr w nw) (fun v h => v = some (.int out) ∧ h = (107, I, J, mm_rf rv sp rr w nw)) := by
  unfold fX9_hasRoomFor at e
  refine mm_T.seg (f' := (2, [some (.ref 45), some (.int x1), some (.int 0)], [])) (h' := (107, I, J, mm_rf rv sp rr w nw)) 2 rfl ?_
  refine mm_T.mask [true, true, true] ?_
  obtain ⟨o2127, eo2127, e⟩ := mm_bind e
  rcases o2127 with va2128 | vb2128
  · cases e
    refine tlX9_hasRoomFor_L2 d _ n x1 0 I J rv sp rr w nw _ eo2127 (fun z hz => ?_) (fun z hz => ?_)
    · cases hz; exact ⟨rfl, rfl⟩
    · cases hz
  · refine tlX9_hasRoomFor_L2 d _ n x1 0 I J rv sp rr w nw (.inr vb2128) eo2127 (fun z hz => ?_) (fun z hz => ?_)
    · cases hz
    · cases hz
      refine mm_T.seg (f' := (31, [none, none, none], [(.int 0)])) (h' := (107, I, J, mm_rf rv sp rr w nw)) 1 rfl ?_
      cases e
      exact mm_T.ret rfl ⟨rfl, rfl⟩
set_option maxRecDepth 100000 in
set_option maxHeartbeats 4000000 in
theorem tX9_placeIn (d n : Nat) (rec : Int32 → Int32 → (Nat → Nat → Int32) → Nat → Option ((Nat → Nat → Int32))) (hrec : ∀ (x1 : Int32) (x2 : Int32) (I : Nat → Nat → Int32) (J : Nat → Nat → Int64) (rv sp rr w nw : Nat), (rv = 3 ∨ rv = 19) → ∀ (out : (Nat → Nat → Int32)), rec x1 x2 I rv = some out → mm_T none d 137 (mm_ent 137 [(.ref 45), (.int x1), (.int x2)]) (107, I, J, mm_rf rv sp rr w nw) (fun v h => v = none ∧ h = (107, out, J, mm_rf rv sp rr w nw))) (x1 : Int32) (x2 : Int32) (x3 : Int32) (I : Nat → Nat → Int32) (J : Nat → Nat → Int64) (rv sp rr w nw : Nat) (hrv : rv = 3 ∨ rv = 19) (out : (Nat → Nat → Int32)) (e : fX9_placeIn n rec x1 x2 x3 I rv = some out) : mm_T none (d + 2) 138 (mm_ent 138 [(.ref 45), (.int x1), (.int x2), (.int x3)]) (107, I, J, mm_rf rv sp rr w nw) (fun v h => v = none ∧ h = (107, out, J, mm_rf rv sp rr w nw)) := by
  rcases hrv with rfl | rfl
  · unfold fX9_placeIn at e
    refine mm_T.seg (f' := (8, [some (.ref 45), some (.int x1), some (.int x2), some (.int x3), none], [(.int x2), (.ref 3)])) (h' := (107, I, J, mm_rf 3 sp rr w nw)) 4 rfl ?_
    refine mm_T.call (t := 80) (as := [(.ref 3), (.int x2)]) (f' := (11, [some (.ref 45), some (.int x1), some (.int x2), some (.int x3), none], [])) rfl (tX5_loadWide (d + 0) x2 3 I J 3 sp rr w nw (Or.inl rfl) _ rfl) (fun v h hq => ?_)
    obtain ⟨rfl, rfl⟩ := hq
    refine mm_T.seg (f' := (19, [some (.ref 45), some (.int x1), some (.int x2), some (.int x3), some (.int (fX5_loadWide x2 3 I))], [(.int x1), (.int x2), (.ref 48)])) (h' := (107, I, J, mm_rf 3 sp rr w nw)) 5 rfl ?_
    refine mm_T.call (t := 205) (as := [(.ref 48), (.int x2), (.int x1)]) (f' := (22, [some (.ref 45), some (.int x1), some (.int x2), some (.int x3), some (.int (fX5_loadWide x2 3 I))], [])) rfl (t_put _ 48 7 x2 x1 I J (mm_rf 3 sp rr w nw) rfl rfl) (fun v h hq => ?_)
    obtain ⟨rfl, rfl⟩ := hq
    refine mm_T.seg (f' := (32, [some (.ref 45), some (.int x1), some (.int x2), some (.int x3), some (.int (fX5_loadWide x2 3 I))], [(.int x1), (.ref 47), (.int x1), (.ref 47)])) (h' := (107, (mf_put I 48 7 x2 x1), J, mm_rf 3 sp rr w nw)) 6 rfl ?_
    refine mm_T.call (t := 204) (as := [(.ref 47), (.int x1)]) (f' := (35, [some (.ref 45), some (.int x1), some (.int x2), some (.int x3), some (.int (fX5_loadWide x2 3 I))], [(.int x1), (.ref 47)])) rfl (t_pick _ 47 7 x1 (mf_put I 48 7 x2 x1) J (mm_rf 3 sp rr w nw) rfl rfl) (fun v h hq => ?_)
    obtain ⟨rfl, rfl⟩ := hq
    refine mm_T.seg (f' := (37, [some (.ref 45), some (.int x1), some (.int x2), some (.int x3), some (.int (fX5_loadWide x2 3 I))], [(.int ((mf_pick (mf_put I 48 7 x2 x1) 47 7 x1) + 1)), (.int x1), (.ref 47)])) (h' := (107, (mf_put I 48 7 x2 x1), J, mm_rf 3 sp rr w nw)) 2 rfl ?_
    refine mm_T.call (t := 205) (as := [(.ref 47), (.int x1), (.int ((mf_pick (mf_put I 48 7 x2 x1) 47 7 x1) + 1))]) (f' := (40, [some (.ref 45), some (.int x1), some (.int x2), some (.int x3), some (.int (fX5_loadWide x2 3 I))], [])) rfl (t_put _ 47 7 x1 ((mf_pick (mf_put I 48 7 x2 x1) 47 7 x1) + 1) (mf_put I 48 7 x2 x1) J (mm_rf 3 sp rr w nw) rfl rfl) (fun v h hq => ?_)
    obtain ⟨rfl, rfl⟩ := hq
    refine mm_T.seg (f' := (50, [some (.ref 45), some (.int x1), some (.int x2), some (.int x3), some (.int (fX5_loadWide x2 3 I))], [(.int x1), (.ref 46), (.int x1), (.ref 46)])) (h' := (107, (mf_put (mf_put I 48 7 x2 x1) 47 7 x1 ((mf_pick (mf_put I 48 7 x2 x1) 47 7 x1) + 1)), J, mm_rf 3 sp rr w nw)) 6 rfl ?_
    refine mm_T.call (t := 204) (as := [(.ref 46), (.int x1)]) (f' := (53, [some (.ref 45), some (.int x1), some (.int x2), some (.int x3), some (.int (fX5_loadWide x2 3 I))], [(.int x1), (.ref 46)])) rfl (t_pick _ 46 7 x1 (mf_put (mf_put I 48 7 x2 x1) 47 7 x1 ((mf_pick (mf_put I 48 7 x2 x1) 47 7 x1) + 1)) J (mm_rf 3 sp rr w nw) rfl rfl) (fun v h hq => ?_)
    obtain ⟨rfl, rfl⟩ := hq
    refine mm_T.seg (f' := (56, [some (.ref 45), some (.int x1), some (.int x2), some (.int x3), some (.int (fX5_loadWide x2 3 I))], [(.int ((mf_pick (mf_put (mf_put I 48 7 x2 x1) 47 7 x1 ((mf_pick (mf_put I 48 7 x2 x1) 47 7 x1) + 1)) 46 7 x1) - (fX5_loadWide x2 3 I))), (.int x1), (.ref 46)])) (h' := (107, (mf_put (mf_put I 48 7 x2 x1) 47 7 x1 ((mf_pick (mf_put I 48 7 x2 x1) 47 7 x1) + 1)), J, mm_rf 3 sp rr w nw)) 2 rfl ?_
    refine mm_T.call (t := 205) (as := [(.ref 46), (.int x1), (.int ((mf_pick (mf_put (mf_put I 48 7 x2 x1) 47 7 x1 ((mf_pick (mf_put I 48 7 x2 x1) 47 7 x1) + 1)) 46 7 x1) - (fX5_loadWide x2 3 I)))]) (f' := (59, [some (.ref 45), some (.int x1), some (.int x2), some (.int x3), some (.int (fX5_loadWide x2 3 I))], [])) rfl (t_put _ 46 7 x1 ((mf_pick (mf_put (mf_put I 48 7 x2 x1) 47 7 x1 ((mf_pick (mf_put I 48 7 x2 x1) 47 7 x1) + 1)) 46 7 x1) - (fX5_loadWide x2 3 I)) (mf_put (mf_put I 48 7 x2 x1) 47 7 x1 ((mf_pick (mf_put I 48 7 x2 x1) 47 7 x1) + 1)) J (mm_rf 3 sp rr w nw) rfl rfl) (fun v h hq => ?_)
    obtain ⟨rfl, rfl⟩ := hq
    refine mm_T.seg (f' := (64, [some (.ref 45), some (.int x1), some (.int x2), some (.int x3), some (.int (fX5_loadWide x2 3 I))], [(.int x3), (.int (x2 + 1)), (.ref 45)])) (h' := (107, (mf_put (mf_put (mf_put I 48 7 x2 x1) 47 7 x1 ((mf_pick (mf_put I 48 7 x2 x1) 47 7 x1) + 1)) 46 7 x1 ((mf_pick (mf_put (mf_put I 48 7 x2 x1) 47 7 x1 ((mf_pick (mf_put I 48 7 x2 x1) 47 7 x1) + 1)) 46 7 x1) - (fX5_loadWide x2 3 I))), J, mm_rf 3 sp rr w nw)) 5 rfl ?_
    obtain ⟨o2144, eo2144, e⟩ := mm_bind e
    refine mm_T.call (t := 137) (as := [(.ref 45), (.int (x2 + 1)), (.int x3)]) (f' := (67, [some (.ref 45), some (.int x1), some (.int x2), some (.int x3), some (.int (fX5_loadWide x2 3 I))], [])) rfl (mm_T.deep (hrec (x2 + 1) x3 (mf_put (mf_put (mf_put I 48 7 x2 x1) 47 7 x1 ((mf_pick (mf_put I 48 7 x2 x1) 47 7 x1) + 1)) 46 7 x1 ((mf_pick (mf_put (mf_put I 48 7 x2 x1) 47 7 x1 ((mf_pick (mf_put I 48 7 x2 x1) 47 7 x1) + 1)) 46 7 x1) - (fX5_loadWide x2 3 I))) J 3 sp rr w nw (Or.inl rfl) o2144 eo2144) (by omega)) (fun v h hq => ?_)
    obtain ⟨rfl, rfl⟩ := hq
    refine mm_T.seg (f' := (77, [some (.ref 45), some (.int x1), some (.int x2), some (.int x3), some (.int (fX5_loadWide x2 3 I))], [(.int x1), (.ref 46), (.int x1), (.ref 46)])) (h' := (107, o2144, J, mm_rf 3 sp rr w nw)) 6 rfl ?_
    refine mm_T.call (t := 204) (as := [(.ref 46), (.int x1)]) (f' := (80, [some (.ref 45), some (.int x1), some (.int x2), some (.int x3), some (.int (fX5_loadWide x2 3 I))], [(.int x1), (.ref 46)])) rfl (t_pick _ 46 7 x1 o2144 J (mm_rf 3 sp rr w nw) rfl rfl) (fun v h hq => ?_)
    obtain ⟨rfl, rfl⟩ := hq
    refine mm_T.seg (f' := (83, [some (.ref 45), some (.int x1), some (.int x2), some (.int x3), some (.int (fX5_loadWide x2 3 I))], [(.int ((mf_pick o2144 46 7 x1) + (fX5_loadWide x2 3 I))), (.int x1), (.ref 46)])) (h' := (107, o2144, J, mm_rf 3 sp rr w nw)) 2 rfl ?_
    refine mm_T.call (t := 205) (as := [(.ref 46), (.int x1), (.int ((mf_pick o2144 46 7 x1) + (fX5_loadWide x2 3 I)))]) (f' := (86, [some (.ref 45), some (.int x1), some (.int x2), some (.int x3), some (.int (fX5_loadWide x2 3 I))], [])) rfl (t_put _ 46 7 x1 ((mf_pick o2144 46 7 x1) + (fX5_loadWide x2 3 I)) o2144 J (mm_rf 3 sp rr w nw) rfl rfl) (fun v h hq => ?_)
    obtain ⟨rfl, rfl⟩ := hq
    refine mm_T.seg (f' := (96, [some (.ref 45), some (.int x1), some (.int x2), some (.int x3), some (.int (fX5_loadWide x2 3 I))], [(.int x1), (.ref 47), (.int x1), (.ref 47)])) (h' := (107, (mf_put o2144 46 7 x1 ((mf_pick o2144 46 7 x1) + (fX5_loadWide x2 3 I))), J, mm_rf 3 sp rr w nw)) 6 rfl ?_
    refine mm_T.call (t := 204) (as := [(.ref 47), (.int x1)]) (f' := (99, [some (.ref 45), some (.int x1), some (.int x2), some (.int x3), some (.int (fX5_loadWide x2 3 I))], [(.int x1), (.ref 47)])) rfl (t_pick _ 47 7 x1 (mf_put o2144 46 7 x1 ((mf_pick o2144 46 7 x1) + (fX5_loadWide x2 3 I))) J (mm_rf 3 sp rr w nw) rfl rfl) (fun v h hq => ?_)
    obtain ⟨rfl, rfl⟩ := hq
    refine mm_T.seg (f' := (101, [some (.ref 45), some (.int x1), some (.int x2), some (.int x3), some (.int (fX5_loadWide x2 3 I))], [(.int ((mf_pick (mf_put o2144 46 7 x1 ((mf_pick o2144 46 7 x1) + (fX5_loadWide x2 3 I))) 47 7 x1) - 1)), (.int x1), (.ref 47)])) (h' := (107, (mf_put o2144 46 7 x1 ((mf_pick o2144 46 7 x1) + (fX5_loadWide x2 3 I))), J, mm_rf 3 sp rr w nw)) 2 rfl ?_
    refine mm_T.call (t := 205) (as := [(.ref 47), (.int x1), (.int ((mf_pick (mf_put o2144 46 7 x1 ((mf_pick o2144 46 7 x1) + (fX5_loadWide x2 3 I))) 47 7 x1) - 1))]) (f' := (104, [some (.ref 45), some (.int x1), some (.int x2), some (.int x3), some (.int (fX5_loadWide x2 3 I))], [])) rfl (t_put _ 47 7 x1 ((mf_pick (mf_put o2144 46 7 x1 ((mf_pick o2144 46 7 x1) + (fX5_loadWide x2 3 I))) 47 7 x1) - 1) (mf_put o2144 46 7 x1 ((mf_pick o2144 46 7 x1) + (fX5_loadWide x2 3 I))) J (mm_rf 3 sp rr w nw) rfl rfl) (fun v h hq => ?_)
    obtain ⟨rfl, rfl⟩ := hq
    cases e
    exact mm_T.ret rfl ⟨rfl, rfl⟩
  · unfold fX9_placeIn at e
    refine mm_T.seg (f' := (8, [some (.ref 45), some (.int x1), some (.int x2), some (.int x3), none], [(.int x2), (.ref 19)])) (h' := (107, I, J, mm_rf 19 sp rr w nw)) 4 rfl ?_
    refine mm_T.call (t := 80) (as := [(.ref 19), (.int x2)]) (f' := (11, [some (.ref 45), some (.int x1), some (.int x2), some (.int x3), none], [])) rfl (tX5_loadWide (d + 0) x2 19 I J 19 sp rr w nw (Or.inr rfl) _ rfl) (fun v h hq => ?_)
    obtain ⟨rfl, rfl⟩ := hq
    refine mm_T.seg (f' := (19, [some (.ref 45), some (.int x1), some (.int x2), some (.int x3), some (.int (fX5_loadWide x2 19 I))], [(.int x1), (.int x2), (.ref 48)])) (h' := (107, I, J, mm_rf 19 sp rr w nw)) 5 rfl ?_
    refine mm_T.call (t := 205) (as := [(.ref 48), (.int x2), (.int x1)]) (f' := (22, [some (.ref 45), some (.int x1), some (.int x2), some (.int x3), some (.int (fX5_loadWide x2 19 I))], [])) rfl (t_put _ 48 7 x2 x1 I J (mm_rf 19 sp rr w nw) rfl rfl) (fun v h hq => ?_)
    obtain ⟨rfl, rfl⟩ := hq
    refine mm_T.seg (f' := (32, [some (.ref 45), some (.int x1), some (.int x2), some (.int x3), some (.int (fX5_loadWide x2 19 I))], [(.int x1), (.ref 47), (.int x1), (.ref 47)])) (h' := (107, (mf_put I 48 7 x2 x1), J, mm_rf 19 sp rr w nw)) 6 rfl ?_
    refine mm_T.call (t := 204) (as := [(.ref 47), (.int x1)]) (f' := (35, [some (.ref 45), some (.int x1), some (.int x2), some (.int x3), some (.int (fX5_loadWide x2 19 I))], [(.int x1), (.ref 47)])) rfl (t_pick _ 47 7 x1 (mf_put I 48 7 x2 x1) J (mm_rf 19 sp rr w nw) rfl rfl) (fun v h hq => ?_)
    obtain ⟨rfl, rfl⟩ := hq
    refine mm_T.seg (f' := (37, [some (.ref 45), some (.int x1), some (.int x2), some (.int x3), some (.int (fX5_loadWide x2 19 I))], [(.int ((mf_pick (mf_put I 48 7 x2 x1) 47 7 x1) + 1)), (.int x1), (.ref 47)])) (h' := (107, (mf_put I 48 7 x2 x1), J, mm_rf 19 sp rr w nw)) 2 rfl ?_
    refine mm_T.call (t := 205) (as := [(.ref 47), (.int x1), (.int ((mf_pick (mf_put I 48 7 x2 x1) 47 7 x1) + 1))]) (f' := (40, [some (.ref 45), some (.int x1), some (.int x2), some (.int x3), some (.int (fX5_loadWide x2 19 I))], [])) rfl (t_put _ 47 7 x1 ((mf_pick (mf_put I 48 7 x2 x1) 47 7 x1) + 1) (mf_put I 48 7 x2 x1) J (mm_rf 19 sp rr w nw) rfl rfl) (fun v h hq => ?_)
    obtain ⟨rfl, rfl⟩ := hq
    refine mm_T.seg (f' := (50, [some (.ref 45), some (.int x1), some (.int x2), some (.int x3), some (.int (fX5_loadWide x2 19 I))], [(.int x1), (.ref 46), (.int x1), (.ref 46)])) (h' := (107, (mf_put (mf_put I 48 7 x2 x1) 47 7 x1 ((mf_pick (mf_put I 48 7 x2 x1) 47 7 x1) + 1)), J, mm_rf 19 sp rr w nw)) 6 rfl ?_
    refine mm_T.call (t := 204) (as := [(.ref 46), (.int x1)]) (f' := (53, [some (.ref 45), some (.int x1), some (.int x2), some (.int x3), some (.int (fX5_loadWide x2 19 I))], [(.int x1), (.ref 46)])) rfl (t_pick _ 46 7 x1 (mf_put (mf_put I 48 7 x2 x1) 47 7 x1 ((mf_pick (mf_put I 48 7 x2 x1) 47 7 x1) + 1)) J (mm_rf 19 sp rr w nw) rfl rfl) (fun v h hq => ?_)
    obtain ⟨rfl, rfl⟩ := hq
    refine mm_T.seg (f' := (56, [some (.ref 45), some (.int x1), some (.int x2), some (.int x3), some (.int (fX5_loadWide x2 19 I))], [(.int ((mf_pick (mf_put (mf_put I 48 7 x2 x1) 47 7 x1 ((mf_pick (mf_put I 48 7 x2 x1) 47 7 x1) + 1)) 46 7 x1) - (fX5_loadWide x2 19 I))), (.int x1), (.ref 46)])) (h' := (107, (mf_put (mf_put I 48 7 x2 x1) 47 7 x1 ((mf_pick (mf_put I 48 7 x2 x1) 47 7 x1) + 1)), J, mm_rf 19 sp rr w nw)) 2 rfl ?_
    refine mm_T.call (t := 205) (as := [(.ref 46), (.int x1), (.int ((mf_pick (mf_put (mf_put I 48 7 x2 x1) 47 7 x1 ((mf_pick (mf_put I 48 7 x2 x1) 47 7 x1) + 1)) 46 7 x1) - (fX5_loadWide x2 19 I)))]) (f' := (59, [some (.ref 45), some (.int x1), some (.int x2), some (.int x3), some (.int (fX5_loadWide x2 19 I))], [])) rfl (t_put _ 46 7 x1 ((mf_pick (mf_put (mf_put I 48 7 x2 x1) 47 7 x1 ((mf_pick (mf_put I 48 7 x2 x1) 47 7 x1) + 1)) 46 7 x1) - (fX5_loadWide x2 19 I)) (mf_put (mf_put I 48 7 x2 x1) 47 7 x1 ((mf_pick (mf_put I 48 7 x2 x1) 47 7 x1) + 1)) J (mm_rf 19 sp rr w nw) rfl rfl) (fun v h hq => ?_)
    obtain ⟨rfl, rfl⟩ := hq
    refine mm_T.seg (f' := (64, [some (.ref 45), some (.int x1), some (.int x2), some (.int x3), some (.int (fX5_loadWide x2 19 I))], [(.int x3), (.int (x2 + 1)), (.ref 45)])) (h' := (107, (mf_put (mf_put (mf_put I 48 7 x2 x1) 47 7 x1 ((mf_pick (mf_put I 48 7 x2 x1) 47 7 x1) + 1)) 46 7 x1 ((mf_pick (mf_put (mf_put I 48 7 x2 x1) 47 7 x1 ((mf_pick (mf_put I 48 7 x2 x1) 47 7 x1) + 1)) 46 7 x1) - (fX5_loadWide x2 19 I))), J, mm_rf 19 sp rr w nw)) 5 rfl ?_
    obtain ⟨o2144, eo2144, e⟩ := mm_bind e
    refine mm_T.call (t := 137) (as := [(.ref 45), (.int (x2 + 1)), (.int x3)]) (f' := (67, [some (.ref 45), some (.int x1), some (.int x2), some (.int x3), some (.int (fX5_loadWide x2 19 I))], [])) rfl (mm_T.deep (hrec (x2 + 1) x3 (mf_put (mf_put (mf_put I 48 7 x2 x1) 47 7 x1 ((mf_pick (mf_put I 48 7 x2 x1) 47 7 x1) + 1)) 46 7 x1 ((mf_pick (mf_put (mf_put I 48 7 x2 x1) 47 7 x1 ((mf_pick (mf_put I 48 7 x2 x1) 47 7 x1) + 1)) 46 7 x1) - (fX5_loadWide x2 19 I))) J 19 sp rr w nw (Or.inr rfl) o2144 eo2144) (by omega)) (fun v h hq => ?_)
    obtain ⟨rfl, rfl⟩ := hq
    refine mm_T.seg (f' := (77, [some (.ref 45), some (.int x1), some (.int x2), some (.int x3), some (.int (fX5_loadWide x2 19 I))], [(.int x1), (.ref 46), (.int x1), (.ref 46)])) (h' := (107, o2144, J, mm_rf 19 sp rr w nw)) 6 rfl ?_
    refine mm_T.call (t := 204) (as := [(.ref 46), (.int x1)]) (f' := (80, [some (.ref 45), some (.int x1), some (.int x2), some (.int x3), some (.int (fX5_loadWide x2 19 I))], [(.int x1), (.ref 46)])) rfl (t_pick _ 46 7 x1 o2144 J (mm_rf 19 sp rr w nw) rfl rfl) (fun v h hq => ?_)
    obtain ⟨rfl, rfl⟩ := hq
    refine mm_T.seg (f' := (83, [some (.ref 45), some (.int x1), some (.int x2), some (.int x3), some (.int (fX5_loadWide x2 19 I))], [(.int ((mf_pick o2144 46 7 x1) + (fX5_loadWide x2 19 I))), (.int x1), (.ref 46)])) (h' := (107, o2144, J, mm_rf 19 sp rr w nw)) 2 rfl ?_
    refine mm_T.call (t := 205) (as := [(.ref 46), (.int x1), (.int ((mf_pick o2144 46 7 x1) + (fX5_loadWide x2 19 I)))]) (f' := (86, [some (.ref 45), some (.int x1), some (.int x2), some (.int x3), some (.int (fX5_loadWide x2 19 I))], [])) rfl (t_put _ 46 7 x1 ((mf_pick o2144 46 7 x1) + (fX5_loadWide x2 19 I)) o2144 J (mm_rf 19 sp rr w nw) rfl rfl) (fun v h hq => ?_)
    obtain ⟨rfl, rfl⟩ := hq
    refine mm_T.seg (f' := (96, [some (.ref 45), some (.int x1), some (.int x2), some (.int x3), some (.int (fX5_loadWide x2 19 I))], [(.int x1), (.ref 47), (.int x1), (.ref 47)])) (h' := (107, (mf_put o2144 46 7 x1 ((mf_pick o2144 46 7 x1) + (fX5_loadWide x2 19 I))), J, mm_rf 19 sp rr w nw)) 6 rfl ?_
    refine mm_T.call (t := 204) (as := [(.ref 47), (.int x1)]) (f' := (99, [some (.ref 45), some (.int x1), some (.int x2), some (.int x3), some (.int (fX5_loadWide x2 19 I))], [(.int x1), (.ref 47)])) rfl (t_pick _ 47 7 x1 (mf_put o2144 46 7 x1 ((mf_pick o2144 46 7 x1) + (fX5_loadWide x2 19 I))) J (mm_rf 19 sp rr w nw) rfl rfl) (fun v h hq => ?_)
    obtain ⟨rfl, rfl⟩ := hq
    refine mm_T.seg (f' := (101, [some (.ref 45), some (.int x1), some (.int x2), some (.int x3), some (.int (fX5_loadWide x2 19 I))], [(.int ((mf_pick (mf_put o2144 46 7 x1 ((mf_pick o2144 46 7 x1) + (fX5_loadWide x2 19 I))) 47 7 x1) - 1)), (.int x1), (.ref 47)])) (h' := (107, (mf_put o2144 46 7 x1 ((mf_pick o2144 46 7 x1) + (fX5_loadWide x2 19 I))), J, mm_rf 19 sp rr w nw)) 2 rfl ?_
    refine mm_T.call (t := 205) (as := [(.ref 47), (.int x1), (.int ((mf_pick (mf_put o2144 46 7 x1 ((mf_pick o2144 46 7 x1) + (fX5_loadWide x2 19 I))) 47 7 x1) - 1))]) (f' := (104, [some (.ref 45), some (.int x1), some (.int x2), some (.int x3), some (.int (fX5_loadWide x2 19 I))], [])) rfl (t_put _ 47 7 x1 ((mf_pick (mf_put o2144 46 7 x1 ((mf_pick o2144 46 7 x1) + (fX5_loadWide x2 19 I))) 47 7 x1) - 1) (mf_put o2144 46 7 x1 ((mf_pick o2144 46 7 x1) + (fX5_loadWide x2 19 I))) J (mm_rf 19 sp rr w nw) rfl rfl) (fun v h hq => ?_)
    obtain ⟨rfl, rfl⟩ := hq
    cases e
    exact mm_T.ret rfl ⟨rfl, rfl⟩
set_option maxRecDepth 100000 in
set_option maxHeartbeats 4000000 in
theorem tlX9_place_L76 (d : Nat) (Q : Option Value → mm_H → Prop) (rec : Int32 → Int32 → (Nat → Nat → Int32) → Nat → Option ((Nat → Nat → Int32))) (hrec : ∀ (x1 : Int32) (x2 : Int32) (I : Nat → Nat → Int32) (J : Nat → Nat → Int64) (rv sp rr w nw : Nat), (rv = 3 ∨ rv = 19) → ∀ (out : (Nat → Nat → Int32)), rec x1 x2 I rv = some out → mm_T none d 137 (mm_ent 137 [(.ref 45), (.int x1), (.int x2)]) (107, I, J, mm_rf rv sp rr w nw) (fun v h => v = none ∧ h = (107, out, J, mm_rf rv sp rr w nw))) : ∀ (n : Nat) (y1 : Int32) (y2 : Int32) (y3 : Int32) (I : Nat → Nat → Int32) (J : Nat → Nat → Int64) (rv sp rr w nw : Nat), (rv = 3 ∨ rv = 19) → ∀ (out : (Unit ⊕ (Unit)) × (Nat → Nat → Int32)), fX9_place_L76 n rec y1 y2 y3 I rv = some out → (∀ (r : Unit) (s0 : Nat → Nat → Int32), out = (.inl r, s0) → Q none (107, s0, J, mm_rf rv sp rr w nw)) → (∀ (y : Unit) (s0 : Nat → Nat → Int32), out = (.inr y, s0) → mm_T none (d + 3) 137 (161, [none, none, none, none, none], []) (107, s0, J, mm_rf rv sp rr w nw) Q) → mm_T none (d + 3) 137 (76, [some (.ref 45), some (.int y1), some (.int y2), some (.int y3), none], []) (107, I, J, mm_rf rv sp rr w nw) Q := by
  intro n
  induction n with
  | zero =>
    intro y1 y2 y3 I J rv sp rr w nw hrv out e kr ke
    rw [fX9_place_L76] at e; cases e
  | succ n ih =>
    intro y1 y2 y3 I J rv sp rr w nw hrv out e kr ke
    rcases hrv with rfl | rfl
    · rw [fX9_place_L76] at e
      refine mm_T.seg (f' := (81, [some (.ref 45), some (.int y1), some (.int y2), some (.int y3), none], [(.int (I 45 4)), (.int y3)])) (h' := (107, I, J, mm_rf 3 sp rr w nw)) 3 rfl ?_
      refine mm_T.br (c := y3 < (I 45 4)) (a := ((84, [some (.ref 45), some (.int y1), some (.int y2), some (.int y3), none], []), (107, I, J, mm_rf 3 sp rr w nw))) (b := ((161, [some (.ref 45), some (.int y1), some (.int y2), some (.int y3), none], []), (107, I, J, mm_rf 3 sp rr w nw))) rfl (fun h2149 => ?_) (fun h2149 => ?_)
      · rw [if_pos h2149] at e
        refine mm_T.seg (f' := (89, [some (.ref 45), some (.int y1), some (.int y2), some (.int y3), none], [(.int y3), (.ref 47)])) (h' := (107, I, J, mm_rf 3 sp rr w nw)) 3 rfl ?_
        refine mm_T.call (t := 204) (as := [(.ref 47), (.int y3)]) (f' := (92, [some (.ref 45), some (.int y1), some (.int y2), some (.int y3), none], [])) rfl (t_pick _ 47 7 y3 I J (mm_rf 3 sp rr w nw) rfl rfl) (fun v h hq => ?_)
        obtain ⟨rfl, rfl⟩ := hq
        refine mm_T.br (c := (mf_pick I 47 7 y3) = 0) (a := ((95, [some (.ref 45), some (.int y1), some (.int y2), some (.int y3), none], []), (107, I, J, mm_rf 3 sp rr w nw))) (b := ((99, [some (.ref 45), some (.int y1), some (.int y2), some (.int y3), none], []), (107, I, J, mm_rf 3 sp rr w nw))) rfl (fun h2150 => ?_) (fun h2150 => ?_)
        · rw [if_pos h2150] at e
          refine mm_T.seg (f' := (110, [some (.ref 45), some (.int y1), some (.int y2), some (.int y3), some (.int 1)], [(.int y1), (.ref 3)])) (h' := (107, I, J, mm_rf 3 sp rr w nw)) 7 rfl ?_
          refine mm_T.call (t := 80) (as := [(.ref 3), (.int y1)]) (f' := (113, [some (.ref 45), some (.int y1), some (.int y2), some (.int y3), some (.int 1)], [])) rfl (tX5_loadWide (d + 1) y1 3 I J 3 sp rr w nw (Or.inl rfl) _ rfl) (fun v h hq => ?_)
          obtain ⟨rfl, rfl⟩ := hq
          refine mm_T.seg (f' := (118, [some (.ref 45), some (.int y1), some (.int y2), some (.int y3), some (.int 1)], [(.int y3), (.ref 46), (.int (fX5_loadWide y1 3 I))])) (h' := (107, I, J, mm_rf 3 sp rr w nw)) 3 rfl ?_
          refine mm_T.call (t := 204) (as := [(.ref 46), (.int y3)]) (f' := (121, [some (.ref 45), some (.int y1), some (.int y2), some (.int y3), some (.int 1)], [(.int (fX5_loadWide y1 3 I))])) rfl (t_pick _ 46 7 y3 I J (mm_rf 3 sp rr w nw) rfl rfl) (fun v h hq => ?_)
          obtain ⟨rfl, rfl⟩ := hq
          refine mm_T.br (c := (mf_pick I 46 7 y3) < (fX5_loadWide y1 3 I)) (a := ((142, [some (.ref 45), some (.int y1), some (.int y2), some (.int y3), some (.int 1)], []), (107, I, J, mm_rf 3 sp rr w nw))) (b := ((124, [some (.ref 45), some (.int y1), some (.int y2), some (.int y3), some (.int 1)], []), (107, I, J, mm_rf 3 sp rr w nw))) rfl (fun h2151 => ?_) (fun h2151 => ?_)
          · rw [if_pos h2151] at e
            refine mm_T.seg (f' := (151, [some (.ref 45), some (.int y1), some (.int y2), some (.int y3), some (.int 1)], [(.int (I 45 5))])) (h' := (107, I, J, mm_rf 3 sp rr w nw)) 4 rfl ?_
            refine mm_T.br (c := (I 45 5) = 0) (a := ((155, [some (.ref 45), some (.int y1), some (.int y2), some (.int y3), some (.int 1)], []), (107, I, J, mm_rf 3 sp rr w nw))) (b := ((154, [some (.ref 45), some (.int y1), some (.int y2), some (.int y3), some (.int 1)], []), (107, I, J, mm_rf 3 sp rr w nw))) rfl (fun h2152 => ?_) (fun h2152 => ?_)
            · rw [if_pos h2152] at e
              refine mm_T.seg (f' := (76, [some (.ref 45), some (.int y1), some (.int y2), some (.int (y3 + 1)), some (.int 1)], [])) (h' := (107, I, J, mm_rf 3 sp rr w nw)) 2 rfl ?_
              refine mm_T.mask [true, true, true, true, false] ?_
              exact ih y1 y2 (y3 + 1) I J 3 sp rr w nw (Or.inl rfl) out e kr ke
            · rw [if_neg h2152] at e
              cases e
              exact mm_T.ret rfl (kr _ _ rfl)
          · rw [if_neg h2151] at e
            refine mm_T.seg (f' := (139, [some (.ref 45), some (.int y1), some (.int y2), some (.int y3), some (.int 1)], [(.int (y2 + 1)), (.int y1), (.int y3), (.ref 45)])) (h' := (107, I, J, mm_rf 3 sp rr w nw)) 9 rfl ?_
            obtain ⟨o2153, eo2153, e⟩ := mm_bind e
            refine mm_T.call (t := 138) (as := [(.ref 45), (.int y3), (.int y1), (.int (y2 + 1))]) (f' := (142, [some (.ref 45), some (.int y1), some (.int y2), some (.int y3), some (.int 1)], [])) rfl (mm_T.deep (tX9_placeIn d n rec hrec y3 y1 (y2 + 1) I J 3 sp rr w nw (Or.inl rfl) o2153 eo2153) (by omega)) (fun v h hq => ?_)
            obtain ⟨rfl, rfl⟩ := hq
            refine mm_T.seg (f' := (151, [some (.ref 45), some (.int y1), some (.int y2), some (.int y3), some (.int 1)], [(.int (o2153 45 5))])) (h' := (107, o2153, J, mm_rf 3 sp rr w nw)) 4 rfl ?_
            refine mm_T.br (c := (o2153 45 5) = 0) (a := ((155, [some (.ref 45), some (.int y1), some (.int y2), some (.int y3), some (.int 1)], []), (107, o2153, J, mm_rf 3 sp rr w nw))) (b := ((154, [some (.ref 45), some (.int y1), some (.int y2), some (.int y3), some (.int 1)], []), (107, o2153, J, mm_rf 3 sp rr w nw))) rfl (fun h2154 => ?_) (fun h2154 => ?_)
            · rw [if_pos h2154] at e
              refine mm_T.seg (f' := (76, [some (.ref 45), some (.int y1), some (.int y2), some (.int (y3 + 1)), some (.int 1)], [])) (h' := (107, o2153, J, mm_rf 3 sp rr w nw)) 2 rfl ?_
              refine mm_T.mask [true, true, true, true, false] ?_
              exact ih y1 y2 (y3 + 1) o2153 J 3 sp rr w nw (Or.inl rfl) out e kr ke
            · rw [if_neg h2154] at e
              cases e
              exact mm_T.ret rfl (kr _ _ rfl)
        · rw [if_neg h2150] at e
          refine mm_T.seg (f' := (110, [some (.ref 45), some (.int y1), some (.int y2), some (.int y3), some (.int 0)], [(.int y1), (.ref 3)])) (h' := (107, I, J, mm_rf 3 sp rr w nw)) 6 rfl ?_
          refine mm_T.call (t := 80) (as := [(.ref 3), (.int y1)]) (f' := (113, [some (.ref 45), some (.int y1), some (.int y2), some (.int y3), some (.int 0)], [])) rfl (tX5_loadWide (d + 1) y1 3 I J 3 sp rr w nw (Or.inl rfl) _ rfl) (fun v h hq => ?_)
          obtain ⟨rfl, rfl⟩ := hq
          refine mm_T.seg (f' := (118, [some (.ref 45), some (.int y1), some (.int y2), some (.int y3), some (.int 0)], [(.int y3), (.ref 46), (.int (fX5_loadWide y1 3 I))])) (h' := (107, I, J, mm_rf 3 sp rr w nw)) 3 rfl ?_
          refine mm_T.call (t := 204) (as := [(.ref 46), (.int y3)]) (f' := (121, [some (.ref 45), some (.int y1), some (.int y2), some (.int y3), some (.int 0)], [(.int (fX5_loadWide y1 3 I))])) rfl (t_pick _ 46 7 y3 I J (mm_rf 3 sp rr w nw) rfl rfl) (fun v h hq => ?_)
          obtain ⟨rfl, rfl⟩ := hq
          refine mm_T.br (c := (mf_pick I 46 7 y3) < (fX5_loadWide y1 3 I)) (a := ((142, [some (.ref 45), some (.int y1), some (.int y2), some (.int y3), some (.int 0)], []), (107, I, J, mm_rf 3 sp rr w nw))) (b := ((124, [some (.ref 45), some (.int y1), some (.int y2), some (.int y3), some (.int 0)], []), (107, I, J, mm_rf 3 sp rr w nw))) rfl (fun h2155 => ?_) (fun h2155 => ?_)
          · rw [if_pos h2155] at e
            refine mm_T.seg (f' := (76, [some (.ref 45), some (.int y1), some (.int y2), some (.int (y3 + 1)), some (.int 0)], [])) (h' := (107, I, J, mm_rf 3 sp rr w nw)) 4 rfl ?_
            refine mm_T.mask [true, true, true, true, false] ?_
            exact ih y1 y2 (y3 + 1) I J 3 sp rr w nw (Or.inl rfl) out e kr ke
          · rw [if_neg h2155] at e
            refine mm_T.seg (f' := (139, [some (.ref 45), some (.int y1), some (.int y2), some (.int y3), some (.int 0)], [(.int y2), (.int y1), (.int y3), (.ref 45)])) (h' := (107, I, J, mm_rf 3 sp rr w nw)) 6 rfl ?_
            obtain ⟨o2156, eo2156, e⟩ := mm_bind e
            refine mm_T.call (t := 138) (as := [(.ref 45), (.int y3), (.int y1), (.int y2)]) (f' := (142, [some (.ref 45), some (.int y1), some (.int y2), some (.int y3), some (.int 0)], [])) rfl (mm_T.deep (tX9_placeIn d n rec hrec y3 y1 y2 I J 3 sp rr w nw (Or.inl rfl) o2156 eo2156) (by omega)) (fun v h hq => ?_)
            obtain ⟨rfl, rfl⟩ := hq
            refine mm_T.seg (f' := (76, [some (.ref 45), some (.int y1), some (.int y2), some (.int (y3 + 1)), some (.int 0)], [])) (h' := (107, o2156, J, mm_rf 3 sp rr w nw)) 4 rfl ?_
            refine mm_T.mask [true, true, true, true, false] ?_
            exact ih y1 y2 (y3 + 1) o2156 J 3 sp rr w nw (Or.inl rfl) out e kr ke
      · rw [if_neg h2149] at e
        cases e
        refine mm_T.mask [false, false, false, false, false] ?_
        exact ke _ _ rfl
    · rw [fX9_place_L76] at e
      refine mm_T.seg (f' := (81, [some (.ref 45), some (.int y1), some (.int y2), some (.int y3), none], [(.int (I 45 4)), (.int y3)])) (h' := (107, I, J, mm_rf 19 sp rr w nw)) 3 rfl ?_
      refine mm_T.br (c := y3 < (I 45 4)) (a := ((84, [some (.ref 45), some (.int y1), some (.int y2), some (.int y3), none], []), (107, I, J, mm_rf 19 sp rr w nw))) (b := ((161, [some (.ref 45), some (.int y1), some (.int y2), some (.int y3), none], []), (107, I, J, mm_rf 19 sp rr w nw))) rfl (fun h2149 => ?_) (fun h2149 => ?_)
      · rw [if_pos h2149] at e
        refine mm_T.seg (f' := (89, [some (.ref 45), some (.int y1), some (.int y2), some (.int y3), none], [(.int y3), (.ref 47)])) (h' := (107, I, J, mm_rf 19 sp rr w nw)) 3 rfl ?_
        refine mm_T.call (t := 204) (as := [(.ref 47), (.int y3)]) (f' := (92, [some (.ref 45), some (.int y1), some (.int y2), some (.int y3), none], [])) rfl (t_pick _ 47 7 y3 I J (mm_rf 19 sp rr w nw) rfl rfl) (fun v h hq => ?_)
        obtain ⟨rfl, rfl⟩ := hq
        refine mm_T.br (c := (mf_pick I 47 7 y3) = 0) (a := ((95, [some (.ref 45), some (.int y1), some (.int y2), some (.int y3), none], []), (107, I, J, mm_rf 19 sp rr w nw))) (b := ((99, [some (.ref 45), some (.int y1), some (.int y2), some (.int y3), none], []), (107, I, J, mm_rf 19 sp rr w nw))) rfl (fun h2150 => ?_) (fun h2150 => ?_)
        · rw [if_pos h2150] at e
          refine mm_T.seg (f' := (110, [some (.ref 45), some (.int y1), some (.int y2), some (.int y3), some (.int 1)], [(.int y1), (.ref 19)])) (h' := (107, I, J, mm_rf 19 sp rr w nw)) 7 rfl ?_
          refine mm_T.call (t := 80) (as := [(.ref 19), (.int y1)]) (f' := (113, [some (.ref 45), some (.int y1), some (.int y2), some (.int y3), some (.int 1)], [])) rfl (tX5_loadWide (d + 1) y1 19 I J 19 sp rr w nw (Or.inr rfl) _ rfl) (fun v h hq => ?_)
          obtain ⟨rfl, rfl⟩ := hq
          refine mm_T.seg (f' := (118, [some (.ref 45), some (.int y1), some (.int y2), some (.int y3), some (.int 1)], [(.int y3), (.ref 46), (.int (fX5_loadWide y1 19 I))])) (h' := (107, I, J, mm_rf 19 sp rr w nw)) 3 rfl ?_
          refine mm_T.call (t := 204) (as := [(.ref 46), (.int y3)]) (f' := (121, [some (.ref 45), some (.int y1), some (.int y2), some (.int y3), some (.int 1)], [(.int (fX5_loadWide y1 19 I))])) rfl (t_pick _ 46 7 y3 I J (mm_rf 19 sp rr w nw) rfl rfl) (fun v h hq => ?_)
          obtain ⟨rfl, rfl⟩ := hq
          refine mm_T.br (c := (mf_pick I 46 7 y3) < (fX5_loadWide y1 19 I)) (a := ((142, [some (.ref 45), some (.int y1), some (.int y2), some (.int y3), some (.int 1)], []), (107, I, J, mm_rf 19 sp rr w nw))) (b := ((124, [some (.ref 45), some (.int y1), some (.int y2), some (.int y3), some (.int 1)], []), (107, I, J, mm_rf 19 sp rr w nw))) rfl (fun h2151 => ?_) (fun h2151 => ?_)
          · rw [if_pos h2151] at e
            refine mm_T.seg (f' := (151, [some (.ref 45), some (.int y1), some (.int y2), some (.int y3), some (.int 1)], [(.int (I 45 5))])) (h' := (107, I, J, mm_rf 19 sp rr w nw)) 4 rfl ?_
            refine mm_T.br (c := (I 45 5) = 0) (a := ((155, [some (.ref 45), some (.int y1), some (.int y2), some (.int y3), some (.int 1)], []), (107, I, J, mm_rf 19 sp rr w nw))) (b := ((154, [some (.ref 45), some (.int y1), some (.int y2), some (.int y3), some (.int 1)], []), (107, I, J, mm_rf 19 sp rr w nw))) rfl (fun h2152 => ?_) (fun h2152 => ?_)
            · rw [if_pos h2152] at e
              refine mm_T.seg (f' := (76, [some (.ref 45), some (.int y1), some (.int y2), some (.int (y3 + 1)), some (.int 1)], [])) (h' := (107, I, J, mm_rf 19 sp rr w nw)) 2 rfl ?_
              refine mm_T.mask [true, true, true, true, false] ?_
              exact ih y1 y2 (y3 + 1) I J 19 sp rr w nw (Or.inr rfl) out e kr ke
            · rw [if_neg h2152] at e
              cases e
              exact mm_T.ret rfl (kr _ _ rfl)
          · rw [if_neg h2151] at e
            refine mm_T.seg (f' := (139, [some (.ref 45), some (.int y1), some (.int y2), some (.int y3), some (.int 1)], [(.int (y2 + 1)), (.int y1), (.int y3), (.ref 45)])) (h' := (107, I, J, mm_rf 19 sp rr w nw)) 9 rfl ?_
            obtain ⟨o2153, eo2153, e⟩ := mm_bind e
            refine mm_T.call (t := 138) (as := [(.ref 45), (.int y3), (.int y1), (.int (y2 + 1))]) (f' := (142, [some (.ref 45), some (.int y1), some (.int y2), some (.int y3), some (.int 1)], [])) rfl (mm_T.deep (tX9_placeIn d n rec hrec y3 y1 (y2 + 1) I J 19 sp rr w nw (Or.inr rfl) o2153 eo2153) (by omega)) (fun v h hq => ?_)
            obtain ⟨rfl, rfl⟩ := hq
            refine mm_T.seg (f' := (151, [some (.ref 45), some (.int y1), some (.int y2), some (.int y3), some (.int 1)], [(.int (o2153 45 5))])) (h' := (107, o2153, J, mm_rf 19 sp rr w nw)) 4 rfl ?_
            refine mm_T.br (c := (o2153 45 5) = 0) (a := ((155, [some (.ref 45), some (.int y1), some (.int y2), some (.int y3), some (.int 1)], []), (107, o2153, J, mm_rf 19 sp rr w nw))) (b := ((154, [some (.ref 45), some (.int y1), some (.int y2), some (.int y3), some (.int 1)], []), (107, o2153, J, mm_rf 19 sp rr w nw))) rfl (fun h2154 => ?_) (fun h2154 => ?_)
            · rw [if_pos h2154] at e
              refine mm_T.seg (f' := (76, [some (.ref 45), some (.int y1), some (.int y2), some (.int (y3 + 1)), some (.int 1)], [])) (h' := (107, o2153, J, mm_rf 19 sp rr w nw)) 2 rfl ?_
              refine mm_T.mask [true, true, true, true, false] ?_
              exact ih y1 y2 (y3 + 1) o2153 J 19 sp rr w nw (Or.inr rfl) out e kr ke
            · rw [if_neg h2154] at e
              cases e
              exact mm_T.ret rfl (kr _ _ rfl)
        · rw [if_neg h2150] at e
          refine mm_T.seg (f' := (110, [some (.ref 45), some (.int y1), some (.int y2), some (.int y3), some (.int 0)], [(.int y1), (.ref 19)])) (h' := (107, I, J, mm_rf 19 sp rr w nw)) 6 rfl ?_
          refine mm_T.call (t := 80) (as := [(.ref 19), (.int y1)]) (f' := (113, [some (.ref 45), some (.int y1), some (.int y2), some (.int y3), some (.int 0)], [])) rfl (tX5_loadWide (d + 1) y1 19 I J 19 sp rr w nw (Or.inr rfl) _ rfl) (fun v h hq => ?_)
          obtain ⟨rfl, rfl⟩ := hq
          refine mm_T.seg (f' := (118, [some (.ref 45), some (.int y1), some (.int y2), some (.int y3), some (.int 0)], [(.int y3), (.ref 46), (.int (fX5_loadWide y1 19 I))])) (h' := (107, I, J, mm_rf 19 sp rr w nw)) 3 rfl ?_
          refine mm_T.call (t := 204) (as := [(.ref 46), (.int y3)]) (f' := (121, [some (.ref 45), some (.int y1), some (.int y2), some (.int y3), some (.int 0)], [(.int (fX5_loadWide y1 19 I))])) rfl (t_pick _ 46 7 y3 I J (mm_rf 19 sp rr w nw) rfl rfl) (fun v h hq => ?_)
          obtain ⟨rfl, rfl⟩ := hq
          refine mm_T.br (c := (mf_pick I 46 7 y3) < (fX5_loadWide y1 19 I)) (a := ((142, [some (.ref 45), some (.int y1), some (.int y2), some (.int y3), some (.int 0)], []), (107, I, J, mm_rf 19 sp rr w nw))) (b := ((124, [some (.ref 45), some (.int y1), some (.int y2), some (.int y3), some (.int 0)], []), (107, I, J, mm_rf 19 sp rr w nw))) rfl (fun h2155 => ?_) (fun h2155 => ?_)
          · rw [if_pos h2155] at e
            refine mm_T.seg (f' := (76, [some (.ref 45), some (.int y1), some (.int y2), some (.int (y3 + 1)), some (.int 0)], [])) (h' := (107, I, J, mm_rf 19 sp rr w nw)) 4 rfl ?_
            refine mm_T.mask [true, true, true, true, false] ?_
            exact ih y1 y2 (y3 + 1) I J 19 sp rr w nw (Or.inr rfl) out e kr ke
          · rw [if_neg h2155] at e
            refine mm_T.seg (f' := (139, [some (.ref 45), some (.int y1), some (.int y2), some (.int y3), some (.int 0)], [(.int y2), (.int y1), (.int y3), (.ref 45)])) (h' := (107, I, J, mm_rf 19 sp rr w nw)) 6 rfl ?_
            obtain ⟨o2156, eo2156, e⟩ := mm_bind e
            refine mm_T.call (t := 138) (as := [(.ref 45), (.int y3), (.int y1), (.int y2)]) (f' := (142, [some (.ref 45), some (.int y1), some (.int y2), some (.int y3), some (.int 0)], [])) rfl (mm_T.deep (tX9_placeIn d n rec hrec y3 y1 y2 I J 19 sp rr w nw (Or.inr rfl) o2156 eo2156) (by omega)) (fun v h hq => ?_)
            obtain ⟨rfl, rfl⟩ := hq
            refine mm_T.seg (f' := (76, [some (.ref 45), some (.int y1), some (.int y2), some (.int (y3 + 1)), some (.int 0)], [])) (h' := (107, o2156, J, mm_rf 19 sp rr w nw)) 4 rfl ?_
            refine mm_T.mask [true, true, true, true, false] ?_
            exact ih y1 y2 (y3 + 1) o2156 J 19 sp rr w nw (Or.inr rfl) out e kr ke
      · rw [if_neg h2149] at e
        cases e
        refine mm_T.mask [false, false, false, false, false] ?_
        exact ke _ _ rfl
set_option maxRecDepth 100000 in
set_option maxHeartbeats 4000000 in
theorem tX9_place_B (d n : Nat) (rec : Int32 → Int32 → (Nat → Nat → Int32) → Nat → Option ((Nat → Nat → Int32))) (hrec : ∀ (x1 : Int32) (x2 : Int32) (I : Nat → Nat → Int32) (J : Nat → Nat → Int64) (rv sp rr w nw : Nat), (rv = 3 ∨ rv = 19) → ∀ (out : (Nat → Nat → Int32)), rec x1 x2 I rv = some out → mm_T none d 137 (mm_ent 137 [(.ref 45), (.int x1), (.int x2)]) (107, I, J, mm_rf rv sp rr w nw) (fun v h => v = none ∧ h = (107, out, J, mm_rf rv sp rr w nw))) (x1 : Int32) (x2 : Int32) (I : Nat → Nat → Int32) (J : Nat → Nat → Int64) (rv sp rr w nw : Nat) (hrv : rv = 3 ∨ rv = 19) (out : (Nat → Nat → Int32)) (e : fX9_place_B n rec x1 x2 I rv = some out) : mm_T none (d + 3) 137 (mm_ent 137 [(.ref 45), (.int x1), (.int x2)]) (107, I, J, mm_rf rv sp rr w nw) (fun v h => v = none ∧ h = (107, out, J, mm_rf rv sp rr w nw)) := by
  rcases hrv with rfl | rfl
  · unfold fX9_place_B at e
    refine mm_T.seg (f' := (5, [some (.ref 45), some (.int x1), some (.int x2), none, none], [(.int (I 45 6)), (.int x2)])) (h' := (107, I, J, mm_rf 3 sp rr w nw)) 3 rfl ?_
    refine mm_T.br (c := x2 < (I 45 6)) (a := ((9, [some (.ref 45), some (.int x1), some (.int x2), none, none], []), (107, I, J, mm_rf 3 sp rr w nw))) (b := ((8, [some (.ref 45), some (.int x1), some (.int x2), none, none], []), (107, I, J, mm_rf 3 sp rr w nw))) rfl (fun h2137 => ?_) (fun h2137 => ?_)
    · rw [if_pos h2137] at e
      refine mm_T.seg (f' := (20, [some (.ref 45), some (.int x1), some (.int x2), none, none], [(.int (I 3 5)), (.int x1)])) (h' := (107, I, J, mm_rf 3 sp rr w nw)) 5 rfl ?_
      refine mm_T.br (c := x1 < (I 3 5)) (a := ((44, [some (.ref 45), some (.int x1), some (.int x2), none, none], []), (107, I, J, mm_rf 3 sp rr w nw))) (b := ((23, [some (.ref 45), some (.int x1), some (.int x2), none, none], []), (107, I, J, mm_rf 3 sp rr w nw))) rfl (fun h2138 => ?_) (fun h2138 => ?_)
      · rw [if_pos h2138] at e
        refine mm_T.seg (f' := (49, [some (.ref 45), some (.int x1), some (.int x2), none, none], [(.int x1), (.ref 18)])) (h' := (107, I, J, mm_rf 3 sp rr w nw)) 3 rfl ?_
        refine mm_T.call (t := 112) (as := [(.ref 18), (.int x1)]) (f' := (52, [some (.ref 45), some (.int x1), some (.int x2), none, none], [])) rfl (tX7_placeOf (d + 1) x1 I J 3 sp rr w nw _ rfl) (fun v h hq => ?_)
        obtain ⟨rfl, rfl⟩ := hq
        refine mm_T.seg (f' := (53, [some (.ref 45), some (.int x1), some (.int x2), none, none], [(.int (-1)), (.int (fX7_placeOf x1 I))])) (h' := (107, I, J, mm_rf 3 sp rr w nw)) 1 rfl ?_
        refine mm_T.br (c := (fX7_placeOf x1 I) = (-1)) (a := ((74, [some (.ref 45), some (.int x1), some (.int x2), none, none], []), (107, I, J, mm_rf 3 sp rr w nw))) (b := ((56, [some (.ref 45), some (.int x1), some (.int x2), none, none], []), (107, I, J, mm_rf 3 sp rr w nw))) rfl (fun h2139 => ?_) (fun h2139 => ?_)
        · rw [if_pos h2139] at e
          refine mm_T.seg (f' := (76, [some (.ref 45), some (.int x1), some (.int x2), some (.int 0), none], [])) (h' := (107, I, J, mm_rf 3 sp rr w nw)) 2 rfl ?_
          refine mm_T.mask [true, true, true, true, false] ?_
          obtain ⟨o2157, eo2157, e⟩ := mm_bind e
          rcases o2157 with ⟨va2158 | vb2158, vs2158_0⟩
          · cases e
            refine tlX9_place_L76 d _ rec hrec n x1 x2 0 I J 3 sp rr w nw (Or.inl rfl) _ eo2157 (fun z z0 hz => ?_) (fun z z0 hz => ?_)
            · cases hz; exact ⟨rfl, rfl⟩
            · cases hz
          · refine tlX9_place_L76 d _ rec hrec n x1 x2 0 I J 3 sp rr w nw (Or.inl rfl) (.inr vb2158, vs2158_0) eo2157 (fun z z0 hz => ?_) (fun z z0 hz => ?_)
            · cases hz
            · cases hz
              cases e
              exact mm_T.ret rfl ⟨rfl, rfl⟩
        · rw [if_neg h2139] at e
          refine mm_T.seg (f' := (62, [some (.ref 45), some (.int x1), some (.int x2), none, none], [(.int (-1)), (.int x1), (.ref 48)])) (h' := (107, I, J, mm_rf 3 sp rr w nw)) 4 rfl ?_
          refine mm_T.call (t := 205) (as := [(.ref 48), (.int x1), (.int (-1))]) (f' := (65, [some (.ref 45), some (.int x1), some (.int x2), none, none], [])) rfl (t_put _ 48 7 x1 (-1) I J (mm_rf 3 sp rr w nw) rfl rfl) (fun v h hq => ?_)
          obtain ⟨rfl, rfl⟩ := hq
          refine mm_T.seg (f' := (70, [some (.ref 45), some (.int x1), some (.int x2), none, none], [(.int x2), (.int (x1 + 1)), (.ref 45)])) (h' := (107, (mf_put I 48 7 x1 (-1)), J, mm_rf 3 sp rr w nw)) 5 rfl ?_
          obtain ⟨o2159, eo2159, e⟩ := mm_bind e
          refine mm_T.call (t := 137) (as := [(.ref 45), (.int (x1 + 1)), (.int x2)]) (f' := (73, [some (.ref 45), some (.int x1), some (.int x2), none, none], [])) rfl (mm_T.deep (hrec (x1 + 1) x2 (mf_put I 48 7 x1 (-1)) J 3 sp rr w nw (Or.inl rfl) o2159 eo2159) (by omega)) (fun v h hq => ?_)
          obtain ⟨rfl, rfl⟩ := hq
          cases e
          exact mm_T.ret rfl ⟨rfl, rfl⟩
      · rw [if_neg h2138] at e
        refine mm_T.seg (f' := (43, [some (.ref 45), some (.int x1), some (.int x2), none, none], [])) (h' := (107, (mm_row (mm_up I 45 6 x2) 49 (va_cpy ((mm_up I 45 6 x2) 48) ((mm_up I 45 6 x2) 49) 0 0 7)), J, mm_rf 3 sp rr w nw)) 11 rfl ?_
        cases e
        exact mm_T.ret rfl ⟨rfl, rfl⟩
    · rw [if_neg h2137] at e
      cases e
      exact mm_T.ret rfl ⟨rfl, rfl⟩
  · unfold fX9_place_B at e
    refine mm_T.seg (f' := (5, [some (.ref 45), some (.int x1), some (.int x2), none, none], [(.int (I 45 6)), (.int x2)])) (h' := (107, I, J, mm_rf 19 sp rr w nw)) 3 rfl ?_
    refine mm_T.br (c := x2 < (I 45 6)) (a := ((9, [some (.ref 45), some (.int x1), some (.int x2), none, none], []), (107, I, J, mm_rf 19 sp rr w nw))) (b := ((8, [some (.ref 45), some (.int x1), some (.int x2), none, none], []), (107, I, J, mm_rf 19 sp rr w nw))) rfl (fun h2137 => ?_) (fun h2137 => ?_)
    · rw [if_pos h2137] at e
      refine mm_T.seg (f' := (20, [some (.ref 45), some (.int x1), some (.int x2), none, none], [(.int (I 19 5)), (.int x1)])) (h' := (107, I, J, mm_rf 19 sp rr w nw)) 5 rfl ?_
      refine mm_T.br (c := x1 < (I 19 5)) (a := ((44, [some (.ref 45), some (.int x1), some (.int x2), none, none], []), (107, I, J, mm_rf 19 sp rr w nw))) (b := ((23, [some (.ref 45), some (.int x1), some (.int x2), none, none], []), (107, I, J, mm_rf 19 sp rr w nw))) rfl (fun h2138 => ?_) (fun h2138 => ?_)
      · rw [if_pos h2138] at e
        refine mm_T.seg (f' := (49, [some (.ref 45), some (.int x1), some (.int x2), none, none], [(.int x1), (.ref 18)])) (h' := (107, I, J, mm_rf 19 sp rr w nw)) 3 rfl ?_
        refine mm_T.call (t := 112) (as := [(.ref 18), (.int x1)]) (f' := (52, [some (.ref 45), some (.int x1), some (.int x2), none, none], [])) rfl (tX7_placeOf (d + 1) x1 I J 19 sp rr w nw _ rfl) (fun v h hq => ?_)
        obtain ⟨rfl, rfl⟩ := hq
        refine mm_T.seg (f' := (53, [some (.ref 45), some (.int x1), some (.int x2), none, none], [(.int (-1)), (.int (fX7_placeOf x1 I))])) (h' := (107, I, J, mm_rf 19 sp rr w nw)) 1 rfl ?_
        refine mm_T.br (c := (fX7_placeOf x1 I) = (-1)) (a := ((74, [some (.ref 45), some (.int x1), some (.int x2), none, none], []), (107, I, J, mm_rf 19 sp rr w nw))) (b := ((56, [some (.ref 45), some (.int x1), some (.int x2), none, none], []), (107, I, J, mm_rf 19 sp rr w nw))) rfl (fun h2139 => ?_) (fun h2139 => ?_)
        · rw [if_pos h2139] at e
          refine mm_T.seg (f' := (76, [some (.ref 45), some (.int x1), some (.int x2), some (.int 0), none], [])) (h' := (107, I, J, mm_rf 19 sp rr w nw)) 2 rfl ?_
          refine mm_T.mask [true, true, true, true, false] ?_
          obtain ⟨o2157, eo2157, e⟩ := mm_bind e
          rcases o2157 with ⟨va2158 | vb2158, vs2158_0⟩
          · cases e
            refine tlX9_place_L76 d _ rec hrec n x1 x2 0 I J 19 sp rr w nw (Or.inr rfl) _ eo2157 (fun z z0 hz => ?_) (fun z z0 hz => ?_)
            · cases hz; exact ⟨rfl, rfl⟩
            · cases hz
          · refine tlX9_place_L76 d _ rec hrec n x1 x2 0 I J 19 sp rr w nw (Or.inr rfl) (.inr vb2158, vs2158_0) eo2157 (fun z z0 hz => ?_) (fun z z0 hz => ?_)
            · cases hz
            · cases hz
              cases e
              exact mm_T.ret rfl ⟨rfl, rfl⟩
        · rw [if_neg h2139] at e
          refine mm_T.seg (f' := (62, [some (.ref 45), some (.int x1), some (.int x2), none, none], [(.int (-1)), (.int x1), (.ref 48)])) (h' := (107, I, J, mm_rf 19 sp rr w nw)) 4 rfl ?_
          refine mm_T.call (t := 205) (as := [(.ref 48), (.int x1), (.int (-1))]) (f' := (65, [some (.ref 45), some (.int x1), some (.int x2), none, none], [])) rfl (t_put _ 48 7 x1 (-1) I J (mm_rf 19 sp rr w nw) rfl rfl) (fun v h hq => ?_)
          obtain ⟨rfl, rfl⟩ := hq
          refine mm_T.seg (f' := (70, [some (.ref 45), some (.int x1), some (.int x2), none, none], [(.int x2), (.int (x1 + 1)), (.ref 45)])) (h' := (107, (mf_put I 48 7 x1 (-1)), J, mm_rf 19 sp rr w nw)) 5 rfl ?_
          obtain ⟨o2159, eo2159, e⟩ := mm_bind e
          refine mm_T.call (t := 137) (as := [(.ref 45), (.int (x1 + 1)), (.int x2)]) (f' := (73, [some (.ref 45), some (.int x1), some (.int x2), none, none], [])) rfl (mm_T.deep (hrec (x1 + 1) x2 (mf_put I 48 7 x1 (-1)) J 19 sp rr w nw (Or.inr rfl) o2159 eo2159) (by omega)) (fun v h hq => ?_)
          obtain ⟨rfl, rfl⟩ := hq
          cases e
          exact mm_T.ret rfl ⟨rfl, rfl⟩
      · rw [if_neg h2138] at e
        refine mm_T.seg (f' := (43, [some (.ref 45), some (.int x1), some (.int x2), none, none], [])) (h' := (107, (mm_row (mm_up I 45 6 x2) 49 (va_cpy ((mm_up I 45 6 x2) 48) ((mm_up I 45 6 x2) 49) 0 0 7)), J, mm_rf 19 sp rr w nw)) 11 rfl ?_
        cases e
        exact mm_T.ret rfl ⟨rfl, rfl⟩
    · rw [if_neg h2137] at e
      cases e
      exact mm_T.ret rfl ⟨rfl, rfl⟩
theorem tX9_place (d n : Nat) : ∀ (q : Nat) (x1 : Int32) (x2 : Int32) (I : Nat → Nat → Int32) (J : Nat → Nat → Int64) (rv sp rr w nw : Nat), (rv = 3 ∨ rv = 19) → ∀ (out : (Nat → Nat → Int32)), fX9_place n q x1 x2 I rv = some out → mm_T none (d + 3 * q) 137 (mm_ent 137 [(.ref 45), (.int x1), (.int x2)]) (107, I, J, mm_rf rv sp rr w nw) (fun v h => v = none ∧ h = (107, out, J, mm_rf rv sp rr w nw)) := by
  intro q
  induction q with
  | zero =>
    intro x1 x2 I J rv sp rr w nw hrv out e
    rw [fX9_place] at e; cases e
  | succ q ih =>
    intro x1 x2 I J rv sp rr w nw hrv out e
    rw [fX9_place] at e
    exact tX9_place_B (d + 3 * q) n (fX9_place n q) ih x1 x2 I J rv sp rr w nw hrv out e
set_option maxRecDepth 100000 in
set_option maxHeartbeats 4000000 in
theorem tlX9_findFewest_L2 (d : Nat) (Q : Option Value → mm_H → Prop) : ∀ (n : Nat) (y1 : Int32) (I : Nat → Nat → Int32) (J : Nat → Nat → Int64) (rv sp rr w nw : Nat), (rv = 3 ∨ rv = 19) → ∀ (out : (Int32 ⊕ (Unit))), fX9_findFewest_L2 n y1 I rv = some out → (∀ (r : Int32), out = .inl r → Q (some (.int r)) (107, I, J, mm_rf rv sp rr w nw)) → (∀ (y : Unit), out = .inr y → mm_T none (d + 28) 135 (54, [some (.ref 45), none], []) (107, I, J, mm_rf rv sp rr w nw) Q) → mm_T none (d + 28) 135 (2, [some (.ref 45), some (.int y1)], []) (107, I, J, mm_rf rv sp rr w nw) Q := by
  intro n
  induction n with
  | zero =>
    intro y1 I J rv sp rr w nw hrv out e kr ke
    rw [fX9_findFewest_L2] at e; cases e
  | succ n ih =>
    intro y1 I J rv sp rr w nw hrv out e kr ke
    rcases hrv with rfl | rfl
    · rw [fX9_findFewest_L2] at e
      refine mm_T.seg (f' := (13, [some (.ref 45), some (.int y1)], [(.int (I 3 5)), (.int y1)])) (h' := (107, I, J, mm_rf 3 sp rr w nw)) 5 rfl ?_
      refine mm_T.br (c := y1 < (I 3 5)) (a := ((16, [some (.ref 45), some (.int y1)], []), (107, I, J, mm_rf 3 sp rr w nw))) (b := ((54, [some (.ref 45), some (.int y1)], []), (107, I, J, mm_rf 3 sp rr w nw))) rfl (fun h2131 => ?_) (fun h2131 => ?_)
      · rw [if_pos h2131] at e
        refine mm_T.seg (f' := (21, [some (.ref 45), some (.int y1)], [(.int y1), (.ref 18)])) (h' := (107, I, J, mm_rf 3 sp rr w nw)) 3 rfl ?_
        refine mm_T.call (t := 112) (as := [(.ref 18), (.int y1)]) (f' := (24, [some (.ref 45), some (.int y1)], [])) rfl (tX7_placeOf (d + 26) y1 I J 3 sp rr w nw _ rfl) (fun v h hq => ?_)
        obtain ⟨rfl, rfl⟩ := hq
        refine mm_T.seg (f' := (25, [some (.ref 45), some (.int y1)], [(.int (-1)), (.int (fX7_placeOf y1 I))])) (h' := (107, I, J, mm_rf 3 sp rr w nw)) 1 rfl ?_
        refine mm_T.br (c := (fX7_placeOf y1 I) = (-1)) (a := ((28, [some (.ref 45), some (.int y1)], []), (107, I, J, mm_rf 3 sp rr w nw))) (b := ((48, [some (.ref 45), some (.int y1)], []), (107, I, J, mm_rf 3 sp rr w nw))) rfl (fun h2132 => ?_) (fun h2132 => ?_)
        · rw [if_pos h2132] at e
          refine mm_T.seg (f' := (37, [some (.ref 45), some (.int y1)], [(.int y1), (.ref 3), (.ref 45)])) (h' := (107, I, J, mm_rf 3 sp rr w nw)) 5 rfl ?_
          refine mm_T.call (t := 80) (as := [(.ref 3), (.int y1)]) (f' := (40, [some (.ref 45), some (.int y1)], [(.ref 45)])) rfl (tX5_loadWide (d + 26) y1 3 I J 3 sp rr w nw (Or.inl rfl) _ rfl) (fun v h hq => ?_)
          obtain ⟨rfl, rfl⟩ := hq
          obtain ⟨o2133, eo2133, e⟩ := mm_bind e
          refine mm_T.call (t := 136) (as := [(.ref 45), (.int (fX5_loadWide y1 3 I))]) (f' := (43, [some (.ref 45), some (.int y1)], [])) rfl (tX9_hasRoomFor (d + 26) n (fX5_loadWide y1 3 I) I J 3 sp rr w nw o2133 eo2133) (fun v h hq => ?_)
          obtain ⟨rfl, rfl⟩ := hq
          refine mm_T.br (c := o2133 = 0) (a := ((46, [some (.ref 45), some (.int y1)], []), (107, I, J, mm_rf 3 sp rr w nw))) (b := ((48, [some (.ref 45), some (.int y1)], []), (107, I, J, mm_rf 3 sp rr w nw))) rfl (fun h2134 => ?_) (fun h2134 => ?_)
          · rw [if_pos h2134] at e
            refine mm_T.seg (f' := (47, [some (.ref 45), some (.int y1)], [(.int (-1))])) (h' := (107, I, J, mm_rf 3 sp rr w nw)) 1 rfl ?_
            cases e
            exact mm_T.ret rfl (kr _ rfl)
          · rw [if_neg h2134] at e
            refine mm_T.seg (f' := (2, [some (.ref 45), some (.int (y1 + 1))], [])) (h' := (107, I, J, mm_rf 3 sp rr w nw)) 2 rfl ?_
            refine mm_T.mask [true, true] ?_
            exact ih (y1 + 1) I J 3 sp rr w nw (Or.inl rfl) out e kr ke
        · rw [if_neg h2132] at e
          refine mm_T.seg (f' := (2, [some (.ref 45), some (.int (y1 + 1))], [])) (h' := (107, I, J, mm_rf 3 sp rr w nw)) 2 rfl ?_
          refine mm_T.mask [true, true] ?_
          exact ih (y1 + 1) I J 3 sp rr w nw (Or.inl rfl) out e kr ke
      · rw [if_neg h2131] at e
        cases e
        refine mm_T.mask [true, false] ?_
        exact ke _ rfl
    · rw [fX9_findFewest_L2] at e
      refine mm_T.seg (f' := (13, [some (.ref 45), some (.int y1)], [(.int (I 19 5)), (.int y1)])) (h' := (107, I, J, mm_rf 19 sp rr w nw)) 5 rfl ?_
      refine mm_T.br (c := y1 < (I 19 5)) (a := ((16, [some (.ref 45), some (.int y1)], []), (107, I, J, mm_rf 19 sp rr w nw))) (b := ((54, [some (.ref 45), some (.int y1)], []), (107, I, J, mm_rf 19 sp rr w nw))) rfl (fun h2131 => ?_) (fun h2131 => ?_)
      · rw [if_pos h2131] at e
        refine mm_T.seg (f' := (21, [some (.ref 45), some (.int y1)], [(.int y1), (.ref 18)])) (h' := (107, I, J, mm_rf 19 sp rr w nw)) 3 rfl ?_
        refine mm_T.call (t := 112) (as := [(.ref 18), (.int y1)]) (f' := (24, [some (.ref 45), some (.int y1)], [])) rfl (tX7_placeOf (d + 26) y1 I J 19 sp rr w nw _ rfl) (fun v h hq => ?_)
        obtain ⟨rfl, rfl⟩ := hq
        refine mm_T.seg (f' := (25, [some (.ref 45), some (.int y1)], [(.int (-1)), (.int (fX7_placeOf y1 I))])) (h' := (107, I, J, mm_rf 19 sp rr w nw)) 1 rfl ?_
        refine mm_T.br (c := (fX7_placeOf y1 I) = (-1)) (a := ((28, [some (.ref 45), some (.int y1)], []), (107, I, J, mm_rf 19 sp rr w nw))) (b := ((48, [some (.ref 45), some (.int y1)], []), (107, I, J, mm_rf 19 sp rr w nw))) rfl (fun h2132 => ?_) (fun h2132 => ?_)
        · rw [if_pos h2132] at e
          refine mm_T.seg (f' := (37, [some (.ref 45), some (.int y1)], [(.int y1), (.ref 19), (.ref 45)])) (h' := (107, I, J, mm_rf 19 sp rr w nw)) 5 rfl ?_
          refine mm_T.call (t := 80) (as := [(.ref 19), (.int y1)]) (f' := (40, [some (.ref 45), some (.int y1)], [(.ref 45)])) rfl (tX5_loadWide (d + 26) y1 19 I J 19 sp rr w nw (Or.inr rfl) _ rfl) (fun v h hq => ?_)
          obtain ⟨rfl, rfl⟩ := hq
          obtain ⟨o2133, eo2133, e⟩ := mm_bind e
          refine mm_T.call (t := 136) (as := [(.ref 45), (.int (fX5_loadWide y1 19 I))]) (f' := (43, [some (.ref 45), some (.int y1)], [])) rfl (tX9_hasRoomFor (d + 26) n (fX5_loadWide y1 19 I) I J 19 sp rr w nw o2133 eo2133) (fun v h hq => ?_)
          obtain ⟨rfl, rfl⟩ := hq
          refine mm_T.br (c := o2133 = 0) (a := ((46, [some (.ref 45), some (.int y1)], []), (107, I, J, mm_rf 19 sp rr w nw))) (b := ((48, [some (.ref 45), some (.int y1)], []), (107, I, J, mm_rf 19 sp rr w nw))) rfl (fun h2134 => ?_) (fun h2134 => ?_)
          · rw [if_pos h2134] at e
            refine mm_T.seg (f' := (47, [some (.ref 45), some (.int y1)], [(.int (-1))])) (h' := (107, I, J, mm_rf 19 sp rr w nw)) 1 rfl ?_
            cases e
            exact mm_T.ret rfl (kr _ rfl)
          · rw [if_neg h2134] at e
            refine mm_T.seg (f' := (2, [some (.ref 45), some (.int (y1 + 1))], [])) (h' := (107, I, J, mm_rf 19 sp rr w nw)) 2 rfl ?_
            refine mm_T.mask [true, true] ?_
            exact ih (y1 + 1) I J 19 sp rr w nw (Or.inr rfl) out e kr ke
        · rw [if_neg h2132] at e
          refine mm_T.seg (f' := (2, [some (.ref 45), some (.int (y1 + 1))], [])) (h' := (107, I, J, mm_rf 19 sp rr w nw)) 2 rfl ?_
          refine mm_T.mask [true, true] ?_
          exact ih (y1 + 1) I J 19 sp rr w nw (Or.inr rfl) out e kr ke
      · rw [if_neg h2131] at e
        cases e
        refine mm_T.mask [true, false] ?_
        exact ke _ rfl
set_option maxRecDepth 100000 in
set_option maxHeartbeats 4000000 in
theorem tX9_findFewest (d n : Nat) (I : Nat → Nat → Int32) (J : Nat → Nat → Int64) (rv sp rr w nw : Nat) (hrv : rv = 3 ∨ rv = 19) (out : Int32 × (Nat → Nat → Int32)) (e : fX9_findFewest n I rv = some out) : mm_T none (d + 28) 135 (mm_ent 135 [(.ref 45)]) (107, I, J, mm_rf rv sp rr w nw) (fun v h => v = some (.int out.1) ∧ h = (107, out.2, J, mm_rf rv sp rr w nw)) := by
  rcases hrv with rfl | rfl
  · unfold fX9_findFewest at e
    refine mm_T.seg (f' := (2, [some (.ref 45), some (.int 0)], [])) (h' := (107, I, J, mm_rf 3 sp rr w nw)) 2 rfl ?_
    refine mm_T.mask [true, true] ?_
    obtain ⟨o2135, eo2135, e⟩ := mm_bind e
    rcases o2135 with va2136 | vb2136
    · cases e
      refine tlX9_findFewest_L2 d _ n 0 I J 3 sp rr w nw (Or.inl rfl) _ eo2135 (fun z hz => ?_) (fun z hz => ?_)
      · cases hz; exact ⟨rfl, rfl⟩
      · cases hz
    · refine tlX9_findFewest_L2 d _ n 0 I J 3 sp rr w nw (Or.inl rfl) (.inr vb2136) eo2135 (fun z hz => ?_) (fun z hz => ?_)
      · cases hz
      · cases hz
        refine mm_T.seg (f' := (65, [some (.ref 45), none], [(.int 0), (.ref 47)])) (h' := (107, (mm_up I 45 6 8), J, mm_rf 3 sp rr w nw)) 6 rfl ?_
        refine mm_T.call (t := 344) (as := [(.ref 47), (.int 0)]) (f' := (68, [some (.ref 45), none], [])) rfl (t_fill _ 47 7 0 (mm_up I 45 6 8) J (mm_rf 3 sp rr w nw) rfl rfl) (fun v h hq => ?_)
        obtain ⟨rfl, rfl⟩ := hq
        refine mm_T.seg (f' := (71, [some (.ref 45), none], [(.int 0), (.int 0), (.ref 45)])) (h' := (107, (mf_fill (mm_up I 45 6 8) 47 7 0), J, mm_rf 3 sp rr w nw)) 3 rfl ?_
        obtain ⟨o2160, eo2160, e⟩ := mm_bind e
        refine mm_T.call (t := 137) (as := [(.ref 45), (.int 0), (.int 0)]) (f' := (74, [some (.ref 45), none], [])) rfl (mm_T.deep (tX9_place d n 9 0 0 (mf_fill (mm_up I 45 6 8) 47 7 0) J 3 sp rr w nw (Or.inl rfl) o2160 eo2160) (by omega)) (fun v h hq => ?_)
        obtain ⟨rfl, rfl⟩ := hq
        refine mm_T.seg (f' := (80, [some (.ref 45), none], [(.int 8), (.int (o2160 45 6))])) (h' := (107, o2160, J, mm_rf 3 sp rr w nw)) 3 rfl ?_
        refine mm_T.br (c := (o2160 45 6) = 8) (a := ((83, [some (.ref 45), none], []), (107, o2160, J, mm_rf 3 sp rr w nw))) (b := ((87, [some (.ref 45), none], []), (107, o2160, J, mm_rf 3 sp rr w nw))) rfl (fun h2161 => ?_) (fun h2161 => ?_)
        · rw [if_pos h2161] at e
          refine mm_T.seg (f' := (91, [some (.ref 45), none], [(.int (-1))])) (h' := (107, o2160, J, mm_rf 3 sp rr w nw)) 2 rfl ?_
          cases e
          exact mm_T.ret rfl ⟨rfl, rfl⟩
        · rw [if_neg h2161] at e
          refine mm_T.seg (f' := (91, [some (.ref 45), none], [(.int (o2160 45 6))])) (h' := (107, o2160, J, mm_rf 3 sp rr w nw)) 2 rfl ?_
          cases e
          exact mm_T.ret rfl ⟨rfl, rfl⟩
  · unfold fX9_findFewest at e
    refine mm_T.seg (f' := (2, [some (.ref 45), some (.int 0)], [])) (h' := (107, I, J, mm_rf 19 sp rr w nw)) 2 rfl ?_
    refine mm_T.mask [true, true] ?_
    obtain ⟨o2135, eo2135, e⟩ := mm_bind e
    rcases o2135 with va2136 | vb2136
    · cases e
      refine tlX9_findFewest_L2 d _ n 0 I J 19 sp rr w nw (Or.inr rfl) _ eo2135 (fun z hz => ?_) (fun z hz => ?_)
      · cases hz; exact ⟨rfl, rfl⟩
      · cases hz
    · refine tlX9_findFewest_L2 d _ n 0 I J 19 sp rr w nw (Or.inr rfl) (.inr vb2136) eo2135 (fun z hz => ?_) (fun z hz => ?_)
      · cases hz
      · cases hz
        refine mm_T.seg (f' := (65, [some (.ref 45), none], [(.int 0), (.ref 47)])) (h' := (107, (mm_up I 45 6 8), J, mm_rf 19 sp rr w nw)) 6 rfl ?_
        refine mm_T.call (t := 344) (as := [(.ref 47), (.int 0)]) (f' := (68, [some (.ref 45), none], [])) rfl (t_fill _ 47 7 0 (mm_up I 45 6 8) J (mm_rf 19 sp rr w nw) rfl rfl) (fun v h hq => ?_)
        obtain ⟨rfl, rfl⟩ := hq
        refine mm_T.seg (f' := (71, [some (.ref 45), none], [(.int 0), (.int 0), (.ref 45)])) (h' := (107, (mf_fill (mm_up I 45 6 8) 47 7 0), J, mm_rf 19 sp rr w nw)) 3 rfl ?_
        obtain ⟨o2160, eo2160, e⟩ := mm_bind e
        refine mm_T.call (t := 137) (as := [(.ref 45), (.int 0), (.int 0)]) (f' := (74, [some (.ref 45), none], [])) rfl (mm_T.deep (tX9_place d n 9 0 0 (mf_fill (mm_up I 45 6 8) 47 7 0) J 19 sp rr w nw (Or.inr rfl) o2160 eo2160) (by omega)) (fun v h hq => ?_)
        obtain ⟨rfl, rfl⟩ := hq
        refine mm_T.seg (f' := (80, [some (.ref 45), none], [(.int 8), (.int (o2160 45 6))])) (h' := (107, o2160, J, mm_rf 19 sp rr w nw)) 3 rfl ?_
        refine mm_T.br (c := (o2160 45 6) = 8) (a := ((83, [some (.ref 45), none], []), (107, o2160, J, mm_rf 19 sp rr w nw))) (b := ((87, [some (.ref 45), none], []), (107, o2160, J, mm_rf 19 sp rr w nw))) rfl (fun h2161 => ?_) (fun h2161 => ?_)
        · rw [if_pos h2161] at e
          refine mm_T.seg (f' := (91, [some (.ref 45), none], [(.int (-1))])) (h' := (107, o2160, J, mm_rf 19 sp rr w nw)) 2 rfl ?_
          cases e
          exact mm_T.ret rfl ⟨rfl, rfl⟩
        · rw [if_neg h2161] at e
          refine mm_T.seg (f' := (91, [some (.ref 45), none], [(.int (o2160 45 6))])) (h' := (107, o2160, J, mm_rf 19 sp rr w nw)) 2 rfl ?_
          cases e
          exact mm_T.ret rfl ⟨rfl, rfl⟩
set_option maxRecDepth 100000 in
set_option maxHeartbeats 4000000 in
theorem tX9_findTrips (d n : Nat) (x1 : Int32) (I : Nat → Nat → Int32) (J : Nat → Nat → Int64) (rv sp rr w nw : Nat) (hrv : rv = 3 ∨ rv = 19) (out : Int32 × (Nat → Nat → Int32)) (e : fX9_findTrips n x1 I rv = some out) : mm_T none (d + 29) 133 (mm_ent 133 [(.ref 45), (.int x1)]) (107, I, J, mm_rf rv sp rr w nw) (fun v h => v = some (.int out.1) ∧ h = (107, out.2, J, mm_rf rv sp rr w nw)) := by
  rcases hrv with rfl | rfl
  · unfold fX9_findTrips at e
    refine mm_T.seg (f' := (23, [some (.ref 45), some (.int x1)], [(.int x1), (.ref 3), (.ref 46)])) (h' := (107, (mm_up (mm_up I 45 4 7) 45 5 1), J, mm_rf 3 sp rr w nw)) 12 rfl ?_
    refine mm_T.call (t := 77) (as := [(.ref 3), (.int x1)]) (f' := (26, [some (.ref 45), some (.int x1)], [(.ref 46)])) rfl (tX5_wideOf (d + 27) x1 3 (mm_up (mm_up I 45 4 7) 45 5 1) J 3 sp rr w nw (Or.inl rfl) _ rfl) (fun v h hq => ?_)
    obtain ⟨rfl, rfl⟩ := hq
    refine mm_T.call (t := 344) (as := [(.ref 46), (.int (fX5_wideOf x1 3 (mm_up (mm_up I 45 4 7) 45 5 1)))]) (f' := (29, [some (.ref 45), some (.int x1)], [])) rfl (t_fill _ 46 7 (fX5_wideOf x1 3 (mm_up (mm_up I 45 4 7) 45 5 1)) (mm_up (mm_up I 45 4 7) 45 5 1) J (mm_rf 3 sp rr w nw) rfl rfl) (fun v h hq => ?_)
    obtain ⟨rfl, rfl⟩ := hq
    refine mm_T.seg (f' := (30, [some (.ref 45), some (.int x1)], [(.ref 45)])) (h' := (107, (mf_fill (mm_up (mm_up I 45 4 7) 45 5 1) 46 7 (fX5_wideOf x1 3 (mm_up (mm_up I 45 4 7) 45 5 1))), J, mm_rf 3 sp rr w nw)) 1 rfl ?_
    obtain ⟨o2162, eo2162, e⟩ := mm_bind e
    refine mm_T.call (t := 135) (as := [(.ref 45)]) (f' := (33, [some (.ref 45), some (.int x1)], [])) rfl (tX9_findFewest (d + 0) n (mf_fill (mm_up (mm_up I 45 4 7) 45 5 1) 46 7 (fX5_wideOf x1 3 (mm_up (mm_up I 45 4 7) 45 5 1))) J 3 sp rr w nw (Or.inl rfl) o2162 eo2162) (fun v h hq => ?_)
    obtain ⟨rfl, rfl⟩ := hq
    cases e
    exact mm_T.ret rfl ⟨rfl, rfl⟩
  · unfold fX9_findTrips at e
    refine mm_T.seg (f' := (23, [some (.ref 45), some (.int x1)], [(.int x1), (.ref 19), (.ref 46)])) (h' := (107, (mm_up (mm_up I 45 4 7) 45 5 1), J, mm_rf 19 sp rr w nw)) 12 rfl ?_
    refine mm_T.call (t := 77) (as := [(.ref 19), (.int x1)]) (f' := (26, [some (.ref 45), some (.int x1)], [(.ref 46)])) rfl (tX5_wideOf (d + 27) x1 19 (mm_up (mm_up I 45 4 7) 45 5 1) J 19 sp rr w nw (Or.inr rfl) _ rfl) (fun v h hq => ?_)
    obtain ⟨rfl, rfl⟩ := hq
    refine mm_T.call (t := 344) (as := [(.ref 46), (.int (fX5_wideOf x1 19 (mm_up (mm_up I 45 4 7) 45 5 1)))]) (f' := (29, [some (.ref 45), some (.int x1)], [])) rfl (t_fill _ 46 7 (fX5_wideOf x1 19 (mm_up (mm_up I 45 4 7) 45 5 1)) (mm_up (mm_up I 45 4 7) 45 5 1) J (mm_rf 19 sp rr w nw) rfl rfl) (fun v h hq => ?_)
    obtain ⟨rfl, rfl⟩ := hq
    refine mm_T.seg (f' := (30, [some (.ref 45), some (.int x1)], [(.ref 45)])) (h' := (107, (mf_fill (mm_up (mm_up I 45 4 7) 45 5 1) 46 7 (fX5_wideOf x1 19 (mm_up (mm_up I 45 4 7) 45 5 1))), J, mm_rf 19 sp rr w nw)) 1 rfl ?_
    obtain ⟨o2162, eo2162, e⟩ := mm_bind e
    refine mm_T.call (t := 135) (as := [(.ref 45)]) (f' := (33, [some (.ref 45), some (.int x1)], [])) rfl (tX9_findFewest (d + 0) n (mf_fill (mm_up (mm_up I 45 4 7) 45 5 1) 46 7 (fX5_wideOf x1 19 (mm_up (mm_up I 45 4 7) 45 5 1))) J 19 sp rr w nw (Or.inr rfl) o2162 eo2162) (fun v h hq => ?_)
    obtain ⟨rfl, rfl⟩ := hq
    cases e
    exact mm_T.ret rfl ⟨rfl, rfl⟩
set_option maxRecDepth 100000 in
set_option maxHeartbeats 4000000 in
theorem tlX9_findStowing_L21 (d : Nat) (Q : Option Value → mm_H → Prop) : ∀ (n : Nat) (y1 : Int32) (I : Nat → Nat → Int32) (J : Nat → Nat → Int64) (rv sp rr w nw : Nat), (rv = 3 ∨ rv = 19) → ∀ (out : (Nat → Nat → Int32)), fX9_findStowing_L21 n y1 I rv = some out → mm_T none (d + 29) 134 (80, [some (.ref 45), none, none], []) (107, out, J, mm_rf rv sp rr w nw) Q → mm_T none (d + 29) 134 (21, [some (.ref 45), some (.int y1), none], []) (107, I, J, mm_rf rv sp rr w nw) Q := by
  intro n
  induction n with
  | zero =>
    intro y1 I J rv sp rr w nw hrv out e k
    rw [fX9_findStowing_L21] at e; cases e
  | succ n ih =>
    intro y1 I J rv sp rr w nw hrv out e k
    rcases hrv with rfl | rfl
    · rw [fX9_findStowing_L21] at e
      refine mm_T.seg (f' := (26, [some (.ref 45), some (.int y1), none], [(.int (I 45 4)), (.int y1)])) (h' := (107, I, J, mm_rf 3 sp rr w nw)) 3 rfl ?_
      refine mm_T.br (c := y1 < (I 45 4)) (a := ((29, [some (.ref 45), some (.int y1), none], []), (107, I, J, mm_rf 3 sp rr w nw))) (b := ((80, [some (.ref 45), some (.int y1), none], []), (107, I, J, mm_rf 3 sp rr w nw))) rfl (fun h2166 => ?_) (fun h2166 => ?_)
      · rw [if_pos h2166] at e
        refine mm_T.seg (f' := (37, [some (.ref 45), some (.int y1), none], [(.int y1), (.ref 3)])) (h' := (107, I, J, mm_rf 3 sp rr w nw)) 4 rfl ?_
        refine mm_T.call (t := 77) (as := [(.ref 3), (.int y1)]) (f' := (40, [some (.ref 45), some (.int y1), none], [])) rfl (tX5_wideOf (d + 27) y1 3 I J 3 sp rr w nw (Or.inl rfl) _ rfl) (fun v h hq => ?_)
        obtain ⟨rfl, rfl⟩ := hq
        refine mm_T.seg (f' := (45, [some (.ref 45), some (.int y1), none], [(.int y1), (.ref 18), (.int (fX5_wideOf y1 3 I))])) (h' := (107, I, J, mm_rf 3 sp rr w nw)) 3 rfl ?_
        obtain ⟨o2167, eo2167, e⟩ := mm_bind e
        refine mm_T.call (t := 118) (as := [(.ref 18), (.int y1)]) (f' := (48, [some (.ref 45), some (.int y1), none], [(.int (fX5_wideOf y1 3 I))])) rfl (tX7_burdenOf (d + 26) n y1 I J 3 sp rr w nw (Or.inl rfl) o2167 eo2167) (fun v h hq => ?_)
        obtain ⟨rfl, rfl⟩ := hq
        refine mm_T.seg (f' := (60, [some (.ref 45), some (.int y1), some (.int ((fX5_wideOf y1 3 I) - o2167))], [(.int y1), (.ref 18), (.int y1), (.ref 46)])) (h' := (107, I, J, mm_rf 3 sp rr w nw)) 8 rfl ?_
        refine mm_T.call (t := 106) (as := [(.ref 18), (.int y1)]) (f' := (63, [some (.ref 45), some (.int y1), some (.int ((fX5_wideOf y1 3 I) - o2167))], [(.int y1), (.ref 46)])) rfl (tX7_rowOf (d + 26) y1 I J 3 sp rr w nw _ rfl) (fun v h hq => ?_)
        obtain ⟨rfl, rfl⟩ := hq
        refine mm_T.br (c := (fX7_rowOf y1 I) = 0) (a := ((66, [some (.ref 45), some (.int y1), some (.int ((fX5_wideOf y1 3 I) - o2167))], [(.int y1), (.ref 46)]), (107, I, J, mm_rf 3 sp rr w nw))) (b := ((70, [some (.ref 45), some (.int y1), some (.int ((fX5_wideOf y1 3 I) - o2167))], [(.int y1), (.ref 46)]), (107, I, J, mm_rf 3 sp rr w nw))) rfl (fun h2168 => ?_) (fun h2168 => ?_)
        · rw [if_pos h2168] at e
          refine mm_T.seg (f' := (71, [some (.ref 45), some (.int y1), some (.int ((fX5_wideOf y1 3 I) - o2167))], [(.int ((fX5_wideOf y1 3 I) - o2167)), (.int y1), (.ref 46)])) (h' := (107, I, J, mm_rf 3 sp rr w nw)) 2 rfl ?_
          refine mm_T.call (t := 205) (as := [(.ref 46), (.int y1), (.int ((fX5_wideOf y1 3 I) - o2167))]) (f' := (74, [some (.ref 45), some (.int y1), some (.int ((fX5_wideOf y1 3 I) - o2167))], [])) rfl (t_put _ 46 7 y1 ((fX5_wideOf y1 3 I) - o2167) I J (mm_rf 3 sp rr w nw) rfl rfl) (fun v h hq => ?_)
          obtain ⟨rfl, rfl⟩ := hq
          refine mm_T.seg (f' := (21, [some (.ref 45), some (.int (y1 + 1)), some (.int ((fX5_wideOf y1 3 I) - o2167))], [])) (h' := (107, (mf_put I 46 7 y1 ((fX5_wideOf y1 3 I) - o2167)), J, mm_rf 3 sp rr w nw)) 2 rfl ?_
          refine mm_T.mask [true, true, false] ?_
          exact ih (y1 + 1) (mf_put I 46 7 y1 ((fX5_wideOf y1 3 I) - o2167)) J 3 sp rr w nw (Or.inl rfl) out e k
        · rw [if_neg h2168] at e
          refine mm_T.seg (f' := (71, [some (.ref 45), some (.int y1), some (.int ((fX5_wideOf y1 3 I) - o2167))], [(.int (-1)), (.int y1), (.ref 46)])) (h' := (107, I, J, mm_rf 3 sp rr w nw)) 1 rfl ?_
          refine mm_T.call (t := 205) (as := [(.ref 46), (.int y1), (.int (-1))]) (f' := (74, [some (.ref 45), some (.int y1), some (.int ((fX5_wideOf y1 3 I) - o2167))], [])) rfl (t_put _ 46 7 y1 (-1) I J (mm_rf 3 sp rr w nw) rfl rfl) (fun v h hq => ?_)
          obtain ⟨rfl, rfl⟩ := hq
          refine mm_T.seg (f' := (21, [some (.ref 45), some (.int (y1 + 1)), some (.int ((fX5_wideOf y1 3 I) - o2167))], [])) (h' := (107, (mf_put I 46 7 y1 (-1)), J, mm_rf 3 sp rr w nw)) 2 rfl ?_
          refine mm_T.mask [true, true, false] ?_
          exact ih (y1 + 1) (mf_put I 46 7 y1 (-1)) J 3 sp rr w nw (Or.inl rfl) out e k
      · rw [if_neg h2166] at e
        cases e
        refine mm_T.mask [true, false, false] ?_
        exact k
    · rw [fX9_findStowing_L21] at e
      refine mm_T.seg (f' := (26, [some (.ref 45), some (.int y1), none], [(.int (I 45 4)), (.int y1)])) (h' := (107, I, J, mm_rf 19 sp rr w nw)) 3 rfl ?_
      refine mm_T.br (c := y1 < (I 45 4)) (a := ((29, [some (.ref 45), some (.int y1), none], []), (107, I, J, mm_rf 19 sp rr w nw))) (b := ((80, [some (.ref 45), some (.int y1), none], []), (107, I, J, mm_rf 19 sp rr w nw))) rfl (fun h2166 => ?_) (fun h2166 => ?_)
      · rw [if_pos h2166] at e
        refine mm_T.seg (f' := (37, [some (.ref 45), some (.int y1), none], [(.int y1), (.ref 19)])) (h' := (107, I, J, mm_rf 19 sp rr w nw)) 4 rfl ?_
        refine mm_T.call (t := 77) (as := [(.ref 19), (.int y1)]) (f' := (40, [some (.ref 45), some (.int y1), none], [])) rfl (tX5_wideOf (d + 27) y1 19 I J 19 sp rr w nw (Or.inr rfl) _ rfl) (fun v h hq => ?_)
        obtain ⟨rfl, rfl⟩ := hq
        refine mm_T.seg (f' := (45, [some (.ref 45), some (.int y1), none], [(.int y1), (.ref 18), (.int (fX5_wideOf y1 19 I))])) (h' := (107, I, J, mm_rf 19 sp rr w nw)) 3 rfl ?_
        obtain ⟨o2167, eo2167, e⟩ := mm_bind e
        refine mm_T.call (t := 118) (as := [(.ref 18), (.int y1)]) (f' := (48, [some (.ref 45), some (.int y1), none], [(.int (fX5_wideOf y1 19 I))])) rfl (tX7_burdenOf (d + 26) n y1 I J 19 sp rr w nw (Or.inr rfl) o2167 eo2167) (fun v h hq => ?_)
        obtain ⟨rfl, rfl⟩ := hq
        refine mm_T.seg (f' := (60, [some (.ref 45), some (.int y1), some (.int ((fX5_wideOf y1 19 I) - o2167))], [(.int y1), (.ref 18), (.int y1), (.ref 46)])) (h' := (107, I, J, mm_rf 19 sp rr w nw)) 8 rfl ?_
        refine mm_T.call (t := 106) (as := [(.ref 18), (.int y1)]) (f' := (63, [some (.ref 45), some (.int y1), some (.int ((fX5_wideOf y1 19 I) - o2167))], [(.int y1), (.ref 46)])) rfl (tX7_rowOf (d + 26) y1 I J 19 sp rr w nw _ rfl) (fun v h hq => ?_)
        obtain ⟨rfl, rfl⟩ := hq
        refine mm_T.br (c := (fX7_rowOf y1 I) = 0) (a := ((66, [some (.ref 45), some (.int y1), some (.int ((fX5_wideOf y1 19 I) - o2167))], [(.int y1), (.ref 46)]), (107, I, J, mm_rf 19 sp rr w nw))) (b := ((70, [some (.ref 45), some (.int y1), some (.int ((fX5_wideOf y1 19 I) - o2167))], [(.int y1), (.ref 46)]), (107, I, J, mm_rf 19 sp rr w nw))) rfl (fun h2168 => ?_) (fun h2168 => ?_)
        · rw [if_pos h2168] at e
          refine mm_T.seg (f' := (71, [some (.ref 45), some (.int y1), some (.int ((fX5_wideOf y1 19 I) - o2167))], [(.int ((fX5_wideOf y1 19 I) - o2167)), (.int y1), (.ref 46)])) (h' := (107, I, J, mm_rf 19 sp rr w nw)) 2 rfl ?_
          refine mm_T.call (t := 205) (as := [(.ref 46), (.int y1), (.int ((fX5_wideOf y1 19 I) - o2167))]) (f' := (74, [some (.ref 45), some (.int y1), some (.int ((fX5_wideOf y1 19 I) - o2167))], [])) rfl (t_put _ 46 7 y1 ((fX5_wideOf y1 19 I) - o2167) I J (mm_rf 19 sp rr w nw) rfl rfl) (fun v h hq => ?_)
          obtain ⟨rfl, rfl⟩ := hq
          refine mm_T.seg (f' := (21, [some (.ref 45), some (.int (y1 + 1)), some (.int ((fX5_wideOf y1 19 I) - o2167))], [])) (h' := (107, (mf_put I 46 7 y1 ((fX5_wideOf y1 19 I) - o2167)), J, mm_rf 19 sp rr w nw)) 2 rfl ?_
          refine mm_T.mask [true, true, false] ?_
          exact ih (y1 + 1) (mf_put I 46 7 y1 ((fX5_wideOf y1 19 I) - o2167)) J 19 sp rr w nw (Or.inr rfl) out e k
        · rw [if_neg h2168] at e
          refine mm_T.seg (f' := (71, [some (.ref 45), some (.int y1), some (.int ((fX5_wideOf y1 19 I) - o2167))], [(.int (-1)), (.int y1), (.ref 46)])) (h' := (107, I, J, mm_rf 19 sp rr w nw)) 1 rfl ?_
          refine mm_T.call (t := 205) (as := [(.ref 46), (.int y1), (.int (-1))]) (f' := (74, [some (.ref 45), some (.int y1), some (.int ((fX5_wideOf y1 19 I) - o2167))], [])) rfl (t_put _ 46 7 y1 (-1) I J (mm_rf 19 sp rr w nw) rfl rfl) (fun v h hq => ?_)
          obtain ⟨rfl, rfl⟩ := hq
          refine mm_T.seg (f' := (21, [some (.ref 45), some (.int (y1 + 1)), some (.int ((fX5_wideOf y1 19 I) - o2167))], [])) (h' := (107, (mf_put I 46 7 y1 (-1)), J, mm_rf 19 sp rr w nw)) 2 rfl ?_
          refine mm_T.mask [true, true, false] ?_
          exact ih (y1 + 1) (mf_put I 46 7 y1 (-1)) J 19 sp rr w nw (Or.inr rfl) out e k
      · rw [if_neg h2166] at e
        cases e
        refine mm_T.mask [true, false, false] ?_
        exact k
set_option maxRecDepth 100000 in
set_option maxHeartbeats 4000000 in
theorem tX9_findStowing (d n : Nat) (I : Nat → Nat → Int32) (J : Nat → Nat → Int64) (rv sp rr w nw : Nat) (hrv : rv = 3 ∨ rv = 19) (out : Int32 × (Nat → Nat → Int32)) (e : fX9_findStowing n I rv = some out) : mm_T none (d + 29) 134 (mm_ent 134 [(.ref 45)]) (107, I, J, mm_rf rv sp rr w nw) (fun v h => v = some (.int out.1) ∧ h = (107, out.2, J, mm_rf rv sp rr w nw)) := by
  rcases hrv with rfl | rfl
  · unfold fX9_findStowing at e
    refine mm_T.seg (f' := (21, [some (.ref 45), some (.int 0), none], [])) (h' := (107, (mm_up (mm_up I 45 4 (I 3 4)) 45 5 0), J, mm_rf 3 sp rr w nw)) 11 rfl ?_
    refine mm_T.mask [true, true, false] ?_
    obtain ⟨o2169, eo2169, e⟩ := mm_bind e
    refine tlX9_findStowing_L21 d _ n 0 (mm_up (mm_up I 45 4 (I 3 4)) 45 5 0) J 3 sp rr w nw (Or.inl rfl) o2169 eo2169 ?_
    refine mm_T.seg (f' := (81, [some (.ref 45), none, none], [(.ref 45)])) (h' := (107, o2169, J, mm_rf 3 sp rr w nw)) 1 rfl ?_
    obtain ⟨o2170, eo2170, e⟩ := mm_bind e
    refine mm_T.call (t := 135) (as := [(.ref 45)]) (f' := (84, [some (.ref 45), none, none], [])) rfl (tX9_findFewest (d + 0) n o2169 J 3 sp rr w nw (Or.inl rfl) o2170 eo2170) (fun v h hq => ?_)
    obtain ⟨rfl, rfl⟩ := hq
    cases e
    exact mm_T.ret rfl ⟨rfl, rfl⟩
  · unfold fX9_findStowing at e
    refine mm_T.seg (f' := (21, [some (.ref 45), some (.int 0), none], [])) (h' := (107, (mm_up (mm_up I 45 4 (I 19 4)) 45 5 0), J, mm_rf 19 sp rr w nw)) 11 rfl ?_
    refine mm_T.mask [true, true, false] ?_
    obtain ⟨o2169, eo2169, e⟩ := mm_bind e
    refine tlX9_findStowing_L21 d _ n 0 (mm_up (mm_up I 45 4 (I 19 4)) 45 5 0) J 19 sp rr w nw (Or.inr rfl) o2169 eo2169 ?_
    refine mm_T.seg (f' := (81, [some (.ref 45), none, none], [(.ref 45)])) (h' := (107, o2169, J, mm_rf 19 sp rr w nw)) 1 rfl ?_
    obtain ⟨o2170, eo2170, e⟩ := mm_bind e
    refine mm_T.call (t := 135) (as := [(.ref 45)]) (f' := (84, [some (.ref 45), none, none], [])) rfl (tX9_findFewest (d + 0) n o2169 J 19 sp rr w nw (Or.inr rfl) o2170 eo2170) (fun v h hq => ?_)
    obtain ⟨rfl, rfl⟩ := hq
    cases e
    exact mm_T.ret rfl ⟨rfl, rfl⟩
set_option maxRecDepth 100000 in
set_option maxHeartbeats 4000000 in
theorem tX10_forget (d : Nat) (I : Nat → Nat → Int32) (J : Nat → Nat → Int64) (rv sp rr w nw : Nat) (out : (Nat → Nat → Int32)) (e : fX10_forget I = out) : mm_T none (d + 0) 140 (mm_ent 140 [(.ref 54)]) (107, I, J, mm_rf rv sp rr w nw) (fun v h => v = none ∧ h = (107, out, J, mm_rf rv sp rr w nw)) := by
  unfold fX10_forget at e
  refine mm_T.seg (f' := (10, [some (.ref 54)], [])) (h' := (107, (mm_up (mm_up I 54 9 0) 54 5 0), J, mm_rf rv sp rr w nw)) 6 rfl ?_
  cases e
  exact mm_T.ret rfl ⟨rfl, rfl⟩
set_option maxRecDepth 100000 in
set_option maxHeartbeats 4000000 in
theorem tX10_get (d : Nat) (x1 : Int32) (x2 : Int32) (I : Nat → Nat → Int32) (J : Nat → Nat → Int64) (rv sp rr w nw : Nat) (out : Int32) (e : fX10_get x1 x2 I = out) : mm_T none (d + 1) 141 (mm_ent 141 [(.ref 54), (.int x1), (.int x2)]) (107, I, J, mm_rf rv sp rr w nw) (fun v h => v = some (.int out) ∧ h = (107, I, J, mm_rf rv sp rr w nw)) := by
  unfold fX10_get at e
  refine mm_T.seg (f' := (10, [some (.ref 54), some (.int x1), some (.int x2)], [(.int ((x1 * 6) + x2)), (.ref 55)])) (h' := (107, I, J, mm_rf rv sp rr w nw)) 7 rfl ?_
  refine mm_T.call (t := 204) (as := [(.ref 55), (.int ((x1 * 6) + x2))]) (f' := (13, [some (.ref 54), some (.int x1), some (.int x2)], [])) rfl (t_pick _ 55 180 ((x1 * 6) + x2) I J (mm_rf rv sp rr w nw) rfl rfl) (fun v h hq => ?_)
  obtain ⟨rfl, rfl⟩ := hq
  cases e
  exact mm_T.ret rfl ⟨rfl, rfl⟩
set_option maxRecDepth 100000 in
set_option maxHeartbeats 4000000 in
theorem tX10_set (d : Nat) (x1 : Int32) (x2 : Int32) (x3 : Int32) (I : Nat → Nat → Int32) (J : Nat → Nat → Int64) (rv sp rr w nw : Nat) (out : (Nat → Nat → Int32)) (e : fX10_set x1 x2 x3 I = out) : mm_T none (d + 1) 142 (mm_ent 142 [(.ref 54), (.int x1), (.int x2), (.int x3)]) (107, I, J, mm_rf rv sp rr w nw) (fun v h => v = none ∧ h = (107, out, J, mm_rf rv sp rr w nw)) := by
  unfold fX10_set at e
  refine mm_T.seg (f' := (11, [some (.ref 54), some (.int x1), some (.int x2), some (.int x3)], [(.int x3), (.int ((x1 * 6) + x2)), (.ref 55)])) (h' := (107, I, J, mm_rf rv sp rr w nw)) 8 rfl ?_
  refine mm_T.call (t := 205) (as := [(.ref 55), (.int ((x1 * 6) + x2)), (.int x3)]) (f' := (14, [some (.ref 54), some (.int x1), some (.int x2), some (.int x3)], [])) rfl (t_put _ 55 180 ((x1 * 6) + x2) x3 I J (mm_rf rv sp rr w nw) rfl rfl) (fun v h hq => ?_)
  obtain ⟨rfl, rfl⟩ := hq
  cases e
  exact mm_T.ret rfl ⟨rfl, rfl⟩
set_option maxRecDepth 100000 in
set_option maxHeartbeats 4000000 in
theorem tbX10_tell_J53 (d : Nat) (I : Nat → Nat → Int32) (J : Nat → Nat → Int64) (rv sp rr w nw : Nat) (out : Int32 × (Nat → Nat → Int32)) (e : fX10_tell_J53 I = out) : mm_T none (d + 2) 143 (53, [none, none, none, none, none, none], []) (107, I, J, mm_rf rv sp rr w nw) (fun v h => v = some (.int out.1) ∧ h = (107, out.2, J, mm_rf rv sp rr w nw)) := by
  unfold fX10_tell_J53 at e
  refine mm_T.seg (f' := (54, [none, none, none, none, none, none], [(.int (-1))])) (h' := (107, I, J, mm_rf rv sp rr w nw)) 1 rfl ?_
  cases e
  exact mm_T.ret rfl ⟨rfl, rfl⟩
set_option maxRecDepth 100000 in
set_option maxHeartbeats 4000000 in
theorem tbX10_tell_J101 (d : Nat) (u0 : Int32) (u1 : Int32) (u2 : Int32) (I : Nat → Nat → Int32) (J : Nat → Nat → Int64) (rv sp rr w nw : Nat) (out : Int32 × (Nat → Nat → Int32)) (e : fX10_tell_J101 u0 u1 u2 I = out) : mm_T none (d + 2) 143 (101, [some (.ref 54), none, none, none, none, none], [(.int u0), (.int u1), (.int u2), (.ref 54)]) (107, I, J, mm_rf rv sp rr w nw) (fun v h => v = some (.int out.1) ∧ h = (107, out.2, J, mm_rf rv sp rr w nw)) := by
  unfold fX10_tell_J101 at e
  obtain ⟨g4, hg4⟩ : ∃ z, fX10_set u2 u1 u0 I = z := ⟨_, rfl⟩
  try rw [hg4] at e
  refine mm_T.call (t := 142) (as := [(.ref 54), (.int u2), (.int u1), (.int u0)]) (f' := (104, [some (.ref 54), none, none, none, none, none], [])) rfl (tX10_set (d + 0) u2 u1 u0 I J rv sp rr w nw g4 hg4) (fun v h hq => ?_)
  obtain ⟨rfl, rfl⟩ := hq
  refine mm_T.seg (f' := (114, [some (.ref 54), none, none, none, none, none], [(.int (g4 54 10)), (.int 4), (.int (g4 54 9)), (.ref 54)])) (h' := (107, g4, J, mm_rf rv sp rr w nw)) 6 rfl ?_
  obtain ⟨g5, hg5⟩ : ∃ z, fX10_set (g4 54 9) 4 (g4 54 10) g4 = z := ⟨_, rfl⟩
  try rw [hg5] at e
  refine mm_T.call (t := 142) (as := [(.ref 54), (.int (g4 54 9)), (.int 4), (.int (g4 54 10))]) (f' := (117, [some (.ref 54), none, none, none, none, none], [])) rfl (tX10_set (d + 0) (g4 54 9) 4 (g4 54 10) g4 J rv sp rr w nw g5 hg5) (fun v h hq => ?_)
  obtain ⟨rfl, rfl⟩ := hq
  refine mm_T.seg (f' := (124, [some (.ref 54), none, none, none, none, none], [(.int (-1)), (.int 5), (.int (g5 54 9)), (.ref 54)])) (h' := (107, g5, J, mm_rf rv sp rr w nw)) 5 rfl ?_
  obtain ⟨g6, hg6⟩ : ∃ z, fX10_set (g5 54 9) 5 (-1) g5 = z := ⟨_, rfl⟩
  try rw [hg6] at e
  refine mm_T.call (t := 142) (as := [(.ref 54), (.int (g5 54 9)), (.int 5), (.int (-1))]) (f' := (127, [some (.ref 54), none, none, none, none, none], [])) rfl (tX10_set (d + 0) (g5 54 9) 5 (-1) g5 J rv sp rr w nw g6 hg6) (fun v h hq => ?_)
  obtain ⟨rfl, rfl⟩ := hq
  refine mm_T.seg (f' := (143, [some (.ref 54), none, none, none, none, none], [(.int (((g6 54 9) + 1) - 1))])) (h' := (107, (mm_up g6 54 9 ((g6 54 9) + 1)), J, mm_rf rv sp rr w nw)) 10 rfl ?_
  cases e
  exact mm_T.ret rfl ⟨rfl, rfl⟩
set_option maxRecDepth 100000 in
set_option maxHeartbeats 4000000 in
theorem tbX10_tell_J37 (d : Nat) (y1 : Int32) (y2 : Int32) (y3 : Int32) (y4 : Int32) (u0 : Int32) (I : Nat → Nat → Int32) (J : Nat → Nat → Int64) (rv sp rr w nw : Nat) (out : Int32 × (Nat → Nat → Int32)) (e : fX10_tell_J37 y1 y2 y3 y4 u0 I = out) : mm_T none (d + 2) 143 (37, [some (.ref 54), some (.int y1), some (.int y2), some (.int y3), some (.int y4), none], [(.int u0)]) (107, I, J, mm_rf rv sp rr w nw) (fun v h => v = some (.int out.1) ∧ h = (107, out.2, J, mm_rf rv sp rr w nw)) := by
  unfold fX10_tell_J37 at e
  refine mm_T.seg (f' := (41, [some (.ref 54), some (.int y1), some (.int y2), some (.int y3), some (.int y4), some (.int u0)], [(.int u0)])) (h' := (107, I, J, mm_rf rv sp rr w nw)) 2 rfl ?_
  refine mm_T.br (c := u0 = 0) (a := ((53, [some (.ref 54), some (.int y1), some (.int y2), some (.int y3), some (.int y4), some (.int u0)], []), (107, I, J, mm_rf rv sp rr w nw))) (b := ((44, [some (.ref 54), some (.int y1), some (.int y2), some (.int y3), some (.int y4), some (.int u0)], []), (107, I, J, mm_rf rv sp rr w nw))) rfl (fun h2172 => ?_) (fun h2172 => ?_)
  · rw [if_pos h2172] at e
    refine mm_T.mask [false, false, false, false, false, false] ?_
    exact tbX10_tell_J53 d I J rv sp rr w nw out e
  · rw [if_neg h2172] at e
    refine mm_T.seg (f' := (50, [some (.ref 54), some (.int y1), some (.int y2), some (.int y3), some (.int y4), some (.int u0)], [(.int 30), (.int (I 54 9))])) (h' := (107, I, J, mm_rf rv sp rr w nw)) 3 rfl ?_
    refine mm_T.br (c := (I 54 9) < 30) (a := ((55, [some (.ref 54), some (.int y1), some (.int y2), some (.int y3), some (.int y4), some (.int u0)], []), (107, I, J, mm_rf rv sp rr w nw))) (b := ((53, [some (.ref 54), some (.int y1), some (.int y2), some (.int y3), some (.int y4), some (.int u0)], []), (107, I, J, mm_rf rv sp rr w nw))) rfl (fun h2173 => ?_) (fun h2173 => ?_)
    · rw [if_pos h2173] at e
      refine mm_T.seg (f' := (62, [some (.ref 54), some (.int y1), some (.int y2), some (.int y3), some (.int y4), some (.int u0)], [(.int y1), (.int 0), (.int (I 54 9)), (.ref 54)])) (h' := (107, I, J, mm_rf rv sp rr w nw)) 5 rfl ?_
      obtain ⟨g1, hg1⟩ : ∃ z, fX10_set (I 54 9) 0 y1 I = z := ⟨_, rfl⟩
      try rw [hg1] at e
      refine mm_T.call (t := 142) (as := [(.ref 54), (.int (I 54 9)), (.int 0), (.int y1)]) (f' := (65, [some (.ref 54), some (.int y1), some (.int y2), some (.int y3), some (.int y4), some (.int u0)], [])) rfl (tX10_set (d + 0) (I 54 9) 0 y1 I J rv sp rr w nw g1 hg1) (fun v h hq => ?_)
      obtain ⟨rfl, rfl⟩ := hq
      refine mm_T.seg (f' := (72, [some (.ref 54), some (.int y1), some (.int y2), some (.int y3), some (.int y4), some (.int u0)], [(.int y2), (.int 1), (.int (g1 54 9)), (.ref 54)])) (h' := (107, g1, J, mm_rf rv sp rr w nw)) 5 rfl ?_
      obtain ⟨g2, hg2⟩ : ∃ z, fX10_set (g1 54 9) 1 y2 g1 = z := ⟨_, rfl⟩
      try rw [hg2] at e
      refine mm_T.call (t := 142) (as := [(.ref 54), (.int (g1 54 9)), (.int 1), (.int y2)]) (f' := (75, [some (.ref 54), some (.int y1), some (.int y2), some (.int y3), some (.int y4), some (.int u0)], [])) rfl (tX10_set (d + 0) (g1 54 9) 1 y2 g1 J rv sp rr w nw g2 hg2) (fun v h hq => ?_)
      obtain ⟨rfl, rfl⟩ := hq
      refine mm_T.seg (f' := (82, [some (.ref 54), some (.int y1), some (.int y2), some (.int y3), some (.int y4), some (.int u0)], [(.int y3), (.int 2), (.int (g2 54 9)), (.ref 54)])) (h' := (107, g2, J, mm_rf rv sp rr w nw)) 5 rfl ?_
      obtain ⟨g3, hg3⟩ : ∃ z, fX10_set (g2 54 9) 2 y3 g2 = z := ⟨_, rfl⟩
      try rw [hg3] at e
      refine mm_T.call (t := 142) (as := [(.ref 54), (.int (g2 54 9)), (.int 2), (.int y3)]) (f' := (85, [some (.ref 54), some (.int y1), some (.int y2), some (.int y3), some (.int y4), some (.int u0)], [])) rfl (tX10_set (d + 0) (g2 54 9) 2 y3 g2 J rv sp rr w nw g3 hg3) (fun v h hq => ?_)
      obtain ⟨rfl, rfl⟩ := hq
      refine mm_T.seg (f' := (93, [some (.ref 54), some (.int y1), some (.int y2), some (.int y3), some (.int y4), some (.int u0)], [(.int y4), (.int 3), (.int (g3 54 9)), (.ref 54)])) (h' := (107, g3, J, mm_rf rv sp rr w nw)) 5 rfl ?_
      refine mm_T.br (c := y4 = 0) (a := ((100, [some (.ref 54), some (.int y1), some (.int y2), some (.int y3), some (.int y4), some (.int u0)], [(.int 3), (.int (g3 54 9)), (.ref 54)]), (107, g3, J, mm_rf rv sp rr w nw))) (b := ((96, [some (.ref 54), some (.int y1), some (.int y2), some (.int y3), some (.int y4), some (.int u0)], [(.int 3), (.int (g3 54 9)), (.ref 54)]), (107, g3, J, mm_rf rv sp rr w nw))) rfl (fun h2174 => ?_) (fun h2174 => ?_)
      · rw [if_pos h2174] at e
        refine mm_T.seg (f' := (101, [some (.ref 54), some (.int y1), some (.int y2), some (.int y3), some (.int y4), some (.int u0)], [(.int 0), (.int 3), (.int (g3 54 9)), (.ref 54)])) (h' := (107, g3, J, mm_rf rv sp rr w nw)) 1 rfl ?_
        refine mm_T.mask [true, false, false, false, false, false] ?_
        exact tbX10_tell_J101 d 0 3 (g3 54 9) g3 J rv sp rr w nw out e
      · rw [if_neg h2174] at e
        refine mm_T.seg (f' := (101, [some (.ref 54), some (.int y1), some (.int y2), some (.int y3), some (.int y4), some (.int u0)], [(.int 1), (.int 3), (.int (g3 54 9)), (.ref 54)])) (h' := (107, g3, J, mm_rf rv sp rr w nw)) 2 rfl ?_
        refine mm_T.mask [true, false, false, false, false, false] ?_
        exact tbX10_tell_J101 d 1 3 (g3 54 9) g3 J rv sp rr w nw out e
    · rw [if_neg h2173] at e
      refine mm_T.mask [false, false, false, false, false, false] ?_
      exact tbX10_tell_J53 d I J rv sp rr w nw out e
set_option maxRecDepth 100000 in
set_option maxHeartbeats 4000000 in
theorem tbX10_tell_J36 (d : Nat) (y1 : Int32) (y2 : Int32) (y3 : Int32) (y4 : Int32) (I : Nat → Nat → Int32) (J : Nat → Nat → Int64) (rv sp rr w nw : Nat) (out : Int32 × (Nat → Nat → Int32)) (e : fX10_tell_J36 y1 y2 y3 y4 I = out) : mm_T none (d + 2) 143 (36, [some (.ref 54), some (.int y1), some (.int y2), some (.int y3), some (.int y4), none], []) (107, I, J, mm_rf rv sp rr w nw) (fun v h => v = some (.int out.1) ∧ h = (107, out.2, J, mm_rf rv sp rr w nw)) := by
  unfold fX10_tell_J36 at e
  refine mm_T.seg (f' := (37, [some (.ref 54), some (.int y1), some (.int y2), some (.int y3), some (.int y4), none], [(.int 0)])) (h' := (107, I, J, mm_rf rv sp rr w nw)) 1 rfl ?_
  refine mm_T.mask [true, true, true, true, true, false] ?_
  exact tbX10_tell_J37 d y1 y2 y3 y4 0 I J rv sp rr w nw out e
set_option maxRecDepth 100000 in
set_option maxHeartbeats 4000000 in
theorem tX10_tell (d : Nat) (x1 : Int32) (x2 : Int32) (x3 : Int32) (x4 : Int32) (I : Nat → Nat → Int32) (J : Nat → Nat → Int64) (rv sp rr w nw : Nat) (hrv : rv = 3 ∨ rv = 19) (out : Int32 × (Nat → Nat → Int32)) (e : fX10_tell x1 x2 x3 x4 I rv = out) : mm_T none (d + 2) 143 (mm_ent 143 [(.ref 54), (.int x1), (.int x2), (.int x3), (.int x4)]) (107, I, J, mm_rf rv sp rr w nw) (fun v h => v = some (.int out.1) ∧ h = (107, out.2, J, mm_rf rv sp rr w nw)) := by
  rcases hrv with rfl | rfl
  · unfold fX10_tell at e
    refine mm_T.seg (f' := (2, [some (.ref 54), some (.int x1), some (.int x2), some (.int x3), some (.int x4), none], [(.int 1), (.int x2)])) (h' := (107, I, J, mm_rf 3 sp rr w nw)) 2 rfl ?_
    refine mm_T.br (c := x2 < 1) (a := ((36, [some (.ref 54), some (.int x1), some (.int x2), some (.int x3), some (.int x4), none], []), (107, I, J, mm_rf 3 sp rr w nw))) (b := ((5, [some (.ref 54), some (.int x1), some (.int x2), some (.int x3), some (.int x4), none], []), (107, I, J, mm_rf 3 sp rr w nw))) rfl (fun h2171 => ?_) (fun h2171 => ?_)
    · rw [if_pos h2171] at e
      refine mm_T.mask [true, true, true, true, true, false] ?_
      exact tbX10_tell_J36 d x1 x2 x3 x4 I J 3 sp rr w nw out e
    · rw [if_neg h2171] at e
      refine mm_T.seg (f' := (16, [some (.ref 54), some (.int x1), some (.int x2), some (.int x3), some (.int x4), none], [(.int (I 3 1)), (.int x2)])) (h' := (107, I, J, mm_rf 3 sp rr w nw)) 5 rfl ?_
      refine mm_T.br (c := (I 3 1) < x2) (a := ((36, [some (.ref 54), some (.int x1), some (.int x2), some (.int x3), some (.int x4), none], []), (107, I, J, mm_rf 3 sp rr w nw))) (b := ((19, [some (.ref 54), some (.int x1), some (.int x2), some (.int x3), some (.int x4), none], []), (107, I, J, mm_rf 3 sp rr w nw))) rfl (fun h2175 => ?_) (fun h2175 => ?_)
      · rw [if_pos h2175] at e
        refine mm_T.mask [true, true, true, true, true, false] ?_
        exact tbX10_tell_J36 d x1 x2 x3 x4 I J 3 sp rr w nw out e
      · rw [if_neg h2175] at e
        refine mm_T.seg (f' := (29, [some (.ref 54), some (.int x1), some (.int x2), some (.int x3), some (.int x4), none], [(.int (I 3 4))])) (h' := (107, I, J, mm_rf 3 sp rr w nw)) 4 rfl ?_
        refine mm_T.br (c := 0 < (I 3 4)) (a := ((32, [some (.ref 54), some (.int x1), some (.int x2), some (.int x3), some (.int x4), none], []), (107, I, J, mm_rf 3 sp rr w nw))) (b := ((36, [some (.ref 54), some (.int x1), some (.int x2), some (.int x3), some (.int x4), none], []), (107, I, J, mm_rf 3 sp rr w nw))) rfl (fun h2176 => ?_) (fun h2176 => ?_)
        · rw [if_pos h2176] at e
          refine mm_T.seg (f' := (37, [some (.ref 54), some (.int x1), some (.int x2), some (.int x3), some (.int x4), none], [(.int 1)])) (h' := (107, I, J, mm_rf 3 sp rr w nw)) 2 rfl ?_
          refine mm_T.mask [true, true, true, true, true, false] ?_
          exact tbX10_tell_J37 d x1 x2 x3 x4 1 I J 3 sp rr w nw out e
        · rw [if_neg h2176] at e
          refine mm_T.mask [true, true, true, true, true, false] ?_
          exact tbX10_tell_J36 d x1 x2 x3 x4 I J 3 sp rr w nw out e
  · unfold fX10_tell at e
    refine mm_T.seg (f' := (2, [some (.ref 54), some (.int x1), some (.int x2), some (.int x3), some (.int x4), none], [(.int 1), (.int x2)])) (h' := (107, I, J, mm_rf 19 sp rr w nw)) 2 rfl ?_
    refine mm_T.br (c := x2 < 1) (a := ((36, [some (.ref 54), some (.int x1), some (.int x2), some (.int x3), some (.int x4), none], []), (107, I, J, mm_rf 19 sp rr w nw))) (b := ((5, [some (.ref 54), some (.int x1), some (.int x2), some (.int x3), some (.int x4), none], []), (107, I, J, mm_rf 19 sp rr w nw))) rfl (fun h2171 => ?_) (fun h2171 => ?_)
    · rw [if_pos h2171] at e
      refine mm_T.mask [true, true, true, true, true, false] ?_
      exact tbX10_tell_J36 d x1 x2 x3 x4 I J 19 sp rr w nw out e
    · rw [if_neg h2171] at e
      refine mm_T.seg (f' := (16, [some (.ref 54), some (.int x1), some (.int x2), some (.int x3), some (.int x4), none], [(.int (I 19 1)), (.int x2)])) (h' := (107, I, J, mm_rf 19 sp rr w nw)) 5 rfl ?_
      refine mm_T.br (c := (I 19 1) < x2) (a := ((36, [some (.ref 54), some (.int x1), some (.int x2), some (.int x3), some (.int x4), none], []), (107, I, J, mm_rf 19 sp rr w nw))) (b := ((19, [some (.ref 54), some (.int x1), some (.int x2), some (.int x3), some (.int x4), none], []), (107, I, J, mm_rf 19 sp rr w nw))) rfl (fun h2175 => ?_) (fun h2175 => ?_)
      · rw [if_pos h2175] at e
        refine mm_T.mask [true, true, true, true, true, false] ?_
        exact tbX10_tell_J36 d x1 x2 x3 x4 I J 19 sp rr w nw out e
      · rw [if_neg h2175] at e
        refine mm_T.seg (f' := (29, [some (.ref 54), some (.int x1), some (.int x2), some (.int x3), some (.int x4), none], [(.int (I 19 4))])) (h' := (107, I, J, mm_rf 19 sp rr w nw)) 4 rfl ?_
        refine mm_T.br (c := 0 < (I 19 4)) (a := ((32, [some (.ref 54), some (.int x1), some (.int x2), some (.int x3), some (.int x4), none], []), (107, I, J, mm_rf 19 sp rr w nw))) (b := ((36, [some (.ref 54), some (.int x1), some (.int x2), some (.int x3), some (.int x4), none], []), (107, I, J, mm_rf 19 sp rr w nw))) rfl (fun h2176 => ?_) (fun h2176 => ?_)
        · rw [if_pos h2176] at e
          refine mm_T.seg (f' := (37, [some (.ref 54), some (.int x1), some (.int x2), some (.int x3), some (.int x4), none], [(.int 1)])) (h' := (107, I, J, mm_rf 19 sp rr w nw)) 2 rfl ?_
          refine mm_T.mask [true, true, true, true, true, false] ?_
          exact tbX10_tell_J37 d x1 x2 x3 x4 1 I J 19 sp rr w nw out e
        · rw [if_neg h2176] at e
          refine mm_T.mask [true, true, true, true, true, false] ?_
          exact tbX10_tell_J36 d x1 x2 x3 x4 I J 19 sp rr w nw out e
