set_option maxRecDepth 100000 in
set_option maxHeartbeats 4000000 in
theorem tlX8_noteIfCooler_L55 (d : Nat) (Q : Option Value → mm_H → Prop) : ∀ (n : Nat) (y4 : Int32) (I : Nat → Nat → Int32) (J : Nat → Nat → Int64) (rv sp rr w nw : Nat), ∀ (out : (Nat → Nat → Int32)), fX8_noteIfCooler_L55 n y4 I = some out → mm_T none (d + 1) 128 (86, [none, none, none, none, none], []) (107, out, J, mm_rf rv sp rr w nw) Q → mm_T none (d + 1) 128 (55, [some (.ref 42), none, none, none, some (.int y4)], []) (107, I, J, mm_rf rv sp rr w nw) Q := by
  intro n
  induction n with
  | zero =>
    intro y4 I J rv sp rr w nw out e k
    rw [fX8_noteIfCooler_L55] at e; cases e
  | succ n ih =>
    intro y4 I J rv sp rr w nw out e k
    rw [fX8_noteIfCooler_L55] at e
    refine mm_T.seg (f' := (59, [some (.ref 42), none, none, none, some (.int y4)], [(.int 6), (.int y4)])) (h' := (107, I, J, mm_rf rv sp rr w nw)) 2 rfl ?_
    refine mm_T.br (c := y4 < 6) (a := ((62, [some (.ref 42), none, none, none, some (.int y4)], []), (107, I, J, mm_rf rv sp rr w nw))) (b := ((86, [some (.ref 42), none, none, none, some (.int y4)], []), (107, I, J, mm_rf rv sp rr w nw))) rfl (fun h2075 => ?_) (fun h2075 => ?_)
    · rw [if_pos h2075] at e
      refine mm_T.seg (f' := (74, [some (.ref 42), none, none, none, some (.int y4)], [(.int y4), (.ref 43), (.int y4), (.ref 44)])) (h' := (107, I, J, mm_rf rv sp rr w nw)) 6 rfl ?_
      refine mm_T.call (t := 204) (as := [(.ref 43), (.int y4)]) (f' := (77, [some (.ref 42), none, none, none, some (.int y4)], [(.int y4), (.ref 44)])) rfl (t_pick _ 43 6 y4 I J (mm_rf rv sp rr w nw) rfl rfl) (fun v h hq => ?_)
      obtain ⟨rfl, rfl⟩ := hq
      refine mm_T.call (t := 205) (as := [(.ref 44), (.int y4), (.int (mf_pick I 43 6 y4))]) (f' := (80, [some (.ref 42), none, none, none, some (.int y4)], [])) rfl (t_put _ 44 6 y4 (mf_pick I 43 6 y4) I J (mm_rf rv sp rr w nw) rfl rfl) (fun v h hq => ?_)
      obtain ⟨rfl, rfl⟩ := hq
      refine mm_T.seg (f' := (55, [some (.ref 42), none, none, none, some (.int (y4 + 1))], [])) (h' := (107, (mf_put I 44 6 y4 (mf_pick I 43 6 y4)), J, mm_rf rv sp rr w nw)) 2 rfl ?_
      refine mm_T.mask [true, false, false, false, true] ?_
      exact ih (y4 + 1) (mf_put I 44 6 y4 (mf_pick I 43 6 y4)) J rv sp rr w nw out e k
    · rw [if_neg h2075] at e
      cases e
      refine mm_T.mask [false, false, false, false, false] ?_
      exact k
set_option maxRecDepth 100000 in
set_option maxHeartbeats 4000000 in
theorem tX8_noteIfCooler (d n : Nat) (x1 : Int32) (x2 : Int32) (x3 : Int32) (I : Nat → Nat → Int32) (J : Nat → Nat → Int64) (rv sp rr w nw : Nat) (out : (Nat → Nat → Int32)) (e : fX8_noteIfCooler n x1 x2 x3 I = some out) : mm_T none (d + 1) 128 (mm_ent 128 [(.ref 42), (.int x1), (.int x2), (.int x3)]) (107, I, J, mm_rf rv sp rr w nw) (fun v h => v = none ∧ h = (107, out, J, mm_rf rv sp rr w nw)) := by
  unfold fX8_noteIfCooler at e
  refine mm_T.seg (f' := (4, [some (.ref 42), some (.int x1), some (.int x2), some (.int x3), none], [(.int (I 42 4))])) (h' := (107, I, J, mm_rf rv sp rr w nw)) 2 rfl ?_
  refine mm_T.br (c := (I 42 4) = 0) (a := ((32, [some (.ref 42), some (.int x1), some (.int x2), some (.int x3), none], []), (107, I, J, mm_rf rv sp rr w nw))) (b := ((7, [some (.ref 42), some (.int x1), some (.int x2), some (.int x3), none], []), (107, I, J, mm_rf rv sp rr w nw))) rfl (fun h2074 => ?_) (fun h2074 => ?_)
  · rw [if_pos h2074] at e
    refine mm_T.seg (f' := (55, [some (.ref 42), some (.int x1), some (.int x2), some (.int x3), some (.int 0)], [])) (h' := (107, (mm_up (mm_up (mm_up (mm_up I 42 4 1) 42 6 x3) 42 7 x2) 42 8 x1), J, mm_rf rv sp rr w nw)) 14 rfl ?_
    refine mm_T.mask [true, false, false, false, true] ?_
    obtain ⟨o2076, eo2076, e⟩ := mm_bind e
    refine tlX8_noteIfCooler_L55 d _ n 0 (mm_up (mm_up (mm_up (mm_up I 42 4 1) 42 6 x3) 42 7 x2) 42 8 x1) J rv sp rr w nw o2076 eo2076 ?_
    cases e
    exact mm_T.ret rfl ⟨rfl, rfl⟩
  · rw [if_neg h2074] at e
    refine mm_T.seg (f' := (12, [some (.ref 42), some (.int x1), some (.int x2), some (.int x3), none], [(.int (I 42 6)), (.int x3)])) (h' := (107, I, J, mm_rf rv sp rr w nw)) 3 rfl ?_
    refine mm_T.br (c := (I 42 6) < x3) (a := ((31, [some (.ref 42), some (.int x1), some (.int x2), some (.int x3), none], []), (107, I, J, mm_rf rv sp rr w nw))) (b := ((15, [some (.ref 42), some (.int x1), some (.int x2), some (.int x3), none], []), (107, I, J, mm_rf rv sp rr w nw))) rfl (fun h2077 => ?_) (fun h2077 => ?_)
    · rw [if_pos h2077] at e
      cases e
      exact mm_T.ret rfl ⟨rfl, rfl⟩
    · rw [if_neg h2077] at e
      refine mm_T.seg (f' := (20, [some (.ref 42), some (.int x1), some (.int x2), some (.int x3), none], [(.int (I 42 6)), (.int x3)])) (h' := (107, I, J, mm_rf rv sp rr w nw)) 3 rfl ?_
      refine mm_T.br (c := x3 = (I 42 6)) (a := ((23, [some (.ref 42), some (.int x1), some (.int x2), some (.int x3), none], []), (107, I, J, mm_rf rv sp rr w nw))) (b := ((32, [some (.ref 42), some (.int x1), some (.int x2), some (.int x3), none], []), (107, I, J, mm_rf rv sp rr w nw))) rfl (fun h2078 => ?_) (fun h2078 => ?_)
      · rw [if_pos h2078] at e
        refine mm_T.seg (f' := (28, [some (.ref 42), some (.int x1), some (.int x2), some (.int x3), none], [(.int (I 42 7)), (.int x2)])) (h' := (107, I, J, mm_rf rv sp rr w nw)) 3 rfl ?_
        refine mm_T.br (c := x2 < (I 42 7)) (a := ((32, [some (.ref 42), some (.int x1), some (.int x2), some (.int x3), none], []), (107, I, J, mm_rf rv sp rr w nw))) (b := ((31, [some (.ref 42), some (.int x1), some (.int x2), some (.int x3), none], []), (107, I, J, mm_rf rv sp rr w nw))) rfl (fun h2079 => ?_) (fun h2079 => ?_)
        · rw [if_pos h2079] at e
          refine mm_T.seg (f' := (55, [some (.ref 42), some (.int x1), some (.int x2), some (.int x3), some (.int 0)], [])) (h' := (107, (mm_up (mm_up (mm_up (mm_up I 42 4 1) 42 6 x3) 42 7 x2) 42 8 x1), J, mm_rf rv sp rr w nw)) 14 rfl ?_
          refine mm_T.mask [true, false, false, false, true] ?_
          obtain ⟨o2080, eo2080, e⟩ := mm_bind e
          refine tlX8_noteIfCooler_L55 d _ n 0 (mm_up (mm_up (mm_up (mm_up I 42 4 1) 42 6 x3) 42 7 x2) 42 8 x1) J rv sp rr w nw o2080 eo2080 ?_
          cases e
          exact mm_T.ret rfl ⟨rfl, rfl⟩
        · rw [if_neg h2079] at e
          cases e
          exact mm_T.ret rfl ⟨rfl, rfl⟩
      · rw [if_neg h2078] at e
        refine mm_T.seg (f' := (55, [some (.ref 42), some (.int x1), some (.int x2), some (.int x3), some (.int 0)], [])) (h' := (107, (mm_up (mm_up (mm_up (mm_up I 42 4 1) 42 6 x3) 42 7 x2) 42 8 x1), J, mm_rf rv sp rr w nw)) 14 rfl ?_
        refine mm_T.mask [true, false, false, false, true] ?_
        obtain ⟨o2081, eo2081, e⟩ := mm_bind e
        refine tlX8_noteIfCooler_L55 d _ n 0 (mm_up (mm_up (mm_up (mm_up I 42 4 1) 42 6 x3) 42 7 x2) 42 8 x1) J rv sp rr w nw o2081 eo2081 ?_
        cases e
        exact mm_T.ret rfl ⟨rfl, rfl⟩
set_option maxRecDepth 100000 in
set_option maxHeartbeats 4000000 in
theorem tlX8_goOn_L132 (d : Nat) (Q : Option Value → mm_H → Prop) (rec : Int32 → Int32 → Int32 → Int32 → (Nat → Nat → Int32) → Nat → Option ((Nat → Nat → Int32))) (hrec : ∀ (x1 : Int32) (x2 : Int32) (x3 : Int32) (x4 : Int32) (I : Nat → Nat → Int32) (J : Nat → Nat → Int64) (rv sp rr w nw : Nat), (rv = 3 ∨ rv = 19) → ∀ (out : (Nat → Nat → Int32)), rec x1 x2 x3 x4 I rv = some out → mm_T none d 127 (mm_ent 127 [(.ref 42), (.int x1), (.int x2), (.int x3), (.int x4)]) (107, I, J, mm_rf rv sp rr w nw) (fun v h => v = none ∧ h = (107, out, J, mm_rf rv sp rr w nw))) : ∀ (n : Nat) (y1 : Int32) (y2 : Int32) (y4 : Int32) (y6 : Int32) (y8 : Int32) (y9 : Int32) (y10 : Int32) (I : Nat → Nat → Int32) (J : Nat → Nat → Int64) (rv sp rr w nw : Nat), (rv = 3 ∨ rv = 19) → ∀ (out : (Nat → Nat → Int32)), fX8_goOn_L132 n rec y1 y2 y4 y6 y8 y9 y10 I rv = some out → mm_T none (d + 4) 127 (215, [none, none, none, none, none, none, none, none, none, none, none, none], []) (107, out, J, mm_rf rv sp rr w nw) Q → mm_T none (d + 4) 127 (132, [some (.ref 42), some (.int y1), some (.int y2), none, some (.int y4), some (.ref rv), some (.int y6), none, some (.int y8), some (.int y9), some (.int y10), none], []) (107, I, J, mm_rf rv sp rr w nw) Q := by
  intro n
  induction n with
  | zero =>
    intro y1 y2 y4 y6 y8 y9 y10 I J rv sp rr w nw hrv out e k
    rw [fX8_goOn_L132] at e; cases e
  | succ n ih =>
    intro y1 y2 y4 y6 y8 y9 y10 I J rv sp rr w nw hrv out e k
    rcases hrv with rfl | rfl
    · rw [fX8_goOn_L132] at e
      refine mm_T.seg (f' := (135, [some (.ref 42), some (.int y1), some (.int y2), none, some (.int y4), some (.ref 3), some (.int y6), none, some (.int y8), some (.int y9), some (.int y10), none], [(.int 1), (.int y10)])) (h' := (107, I, J, mm_rf 3 sp rr w nw)) 2 rfl ?_
      refine mm_T.br (c := 1 < y10) (a := ((215, [some (.ref 42), some (.int y1), some (.int y2), none, some (.int y4), some (.ref 3), some (.int y6), none, some (.int y8), some (.int y9), some (.int y10), none], []), (107, I, J, mm_rf 3 sp rr w nw))) (b := ((138, [some (.ref 42), some (.int y1), some (.int y2), none, some (.int y4), some (.ref 3), some (.int y6), none, some (.int y8), some (.int y9), some (.int y10), none], []), (107, I, J, mm_rf 3 sp rr w nw))) rfl (fun h2063 => ?_) (fun h2063 => ?_)
      · rw [if_pos h2063] at e
        cases e
        refine mm_T.mask [false, false, false, false, false, false, false, false, false, false, false, false] ?_
        exact k
      · rw [if_neg h2063] at e
        refine mm_T.seg (f' := (146, [some (.ref 42), some (.int y1), some (.int y2), none, some (.int y4), some (.ref 3), some (.int y6), none, some (.int y8), some (.int y9), some (.int y10), none], [(.int 1), (.int y10), (.int y6), (.int y2), (.ref 3)])) (h' := (107, I, J, mm_rf 3 sp rr w nw)) 5 rfl ?_
        refine mm_T.call (t := 81) (as := [(.ref 3), (.int y2), (.int y6), (.int y10), (.int 1)]) (f' := (149, [some (.ref 42), some (.int y1), some (.int y2), none, some (.int y4), some (.ref 3), some (.int y6), none, some (.int y8), some (.int y9), some (.int y10), none], [])) rfl (tX5_leadsTo (d + 2) y2 y6 y10 1 3 I J 3 sp rr w nw (Or.inl rfl) _ rfl) (fun v h hq => ?_)
        obtain ⟨rfl, rfl⟩ := hq
        refine mm_T.seg (f' := (159, [some (.ref 42), some (.int y1), some (.int y2), none, some (.int y4), some (.ref 3), some (.int y6), none, some (.int y8), some (.int y9), some (.int y10), some (.int (fX5_leadsTo y2 y6 y10 1 3 I))], [(.int (y6 + 1)), (.int (fX5_leadsTo y2 y6 y10 1 3 I)), (.ref 3)])) (h' := (107, I, J, mm_rf 3 sp rr w nw)) 6 rfl ?_
        refine mm_T.call (t := 69) (as := [(.ref 3), (.int (fX5_leadsTo y2 y6 y10 1 3 I)), (.int (y6 + 1))]) (f' := (162, [some (.ref 42), some (.int y1), some (.int y2), none, some (.int y4), some (.ref 3), some (.int y6), none, some (.int y8), some (.int y9), some (.int y10), some (.int (fX5_leadsTo y2 y6 y10 1 3 I))], [])) rfl (tX5_ironAt (d + 2) (fX5_leadsTo y2 y6 y10 1 3 I) (y6 + 1) 3 I J 3 sp rr w nw (Or.inl rfl) _ rfl) (fun v h hq => ?_)
        obtain ⟨rfl, rfl⟩ := hq
        refine mm_T.br (c := (fX5_ironAt (fX5_leadsTo y2 y6 y10 1 3 I) (y6 + 1) 3 I) = 0) (a := ((165, [some (.ref 42), some (.int y1), some (.int y2), none, some (.int y4), some (.ref 3), some (.int y6), none, some (.int y8), some (.int y9), some (.int y10), some (.int (fX5_leadsTo y2 y6 y10 1 3 I))], []), (107, I, J, mm_rf 3 sp rr w nw))) (b := ((209, [some (.ref 42), some (.int y1), some (.int y2), none, some (.int y4), some (.ref 3), some (.int y6), none, some (.int y8), some (.int y9), some (.int y10), some (.int (fX5_leadsTo y2 y6 y10 1 3 I))], []), (107, I, J, mm_rf 3 sp rr w nw))) rfl (fun h2064 => ?_) (fun h2064 => ?_)
        · rw [if_pos h2064] at e
          refine mm_T.seg (f' := (172, [some (.ref 42), some (.int y1), some (.int y2), none, some (.int y4), some (.ref 3), some (.int y6), none, some (.int y8), some (.int y9), some (.int y10), some (.int (fX5_leadsTo y2 y6 y10 1 3 I))], [(.int y10), (.int y1), (.ref 43)])) (h' := (107, I, J, mm_rf 3 sp rr w nw)) 4 rfl ?_
          refine mm_T.call (t := 205) (as := [(.ref 43), (.int y1), (.int y10)]) (f' := (175, [some (.ref 42), some (.int y1), some (.int y2), none, some (.int y4), some (.ref 3), some (.int y6), none, some (.int y8), some (.int y9), some (.int y10), some (.int (fX5_leadsTo y2 y6 y10 1 3 I))], [])) rfl (t_put _ 43 6 y1 y10 I J (mm_rf 3 sp rr w nw) rfl rfl) (fun v h hq => ?_)
          obtain ⟨rfl, rfl⟩ := hq
          refine mm_T.seg (f' := (183, [some (.ref 42), some (.int y1), some (.int y2), none, some (.int y4), some (.ref 3), some (.int y6), none, some (.int y8), some (.int y9), some (.int y10), some (.int (fX5_leadsTo y2 y6 y10 1 3 I))], [(.int y9), (.int (fX5_leadsTo y2 y6 y10 1 3 I)), (.int (y1 + 1)), (.ref 42)])) (h' := (107, (mf_put I 43 6 y1 y10), J, mm_rf 3 sp rr w nw)) 6 rfl ?_
          refine mm_T.br (c := y9 = 0) (a := ((190, [some (.ref 42), some (.int y1), some (.int y2), none, some (.int y4), some (.ref 3), some (.int y6), none, some (.int y8), some (.int y9), some (.int y10), some (.int (fX5_leadsTo y2 y6 y10 1 3 I))], [(.int (fX5_leadsTo y2 y6 y10 1 3 I)), (.int (y1 + 1)), (.ref 42)]), (107, (mf_put I 43 6 y1 y10), J, mm_rf 3 sp rr w nw))) (b := ((186, [some (.ref 42), some (.int y1), some (.int y2), none, some (.int y4), some (.ref 3), some (.int y6), none, some (.int y8), some (.int y9), some (.int y10), some (.int (fX5_leadsTo y2 y6 y10 1 3 I))], [(.int (fX5_leadsTo y2 y6 y10 1 3 I)), (.int (y1 + 1)), (.ref 42)]), (107, (mf_put I 43 6 y1 y10), J, mm_rf 3 sp rr w nw))) rfl (fun h2065 => ?_) (fun h2065 => ?_)
          · rw [if_pos h2065] at e
            refine mm_T.seg (f' := (194, [some (.ref 42), some (.int y1), some (.int y2), none, some (.int y4), some (.ref 3), some (.int y6), none, some (.int y8), some (.int y9), some (.int y10), some (.int (fX5_leadsTo y2 y6 y10 1 3 I))], [(.int y9), (.int y8), (.int (fX5_leadsTo y2 y6 y10 1 3 I)), (.int (y1 + 1)), (.ref 42)])) (h' := (107, (mf_put I 43 6 y1 y10), J, mm_rf 3 sp rr w nw)) 2 rfl ?_
            refine mm_T.br (c := y9 = 0) (a := ((204, [some (.ref 42), some (.int y1), some (.int y2), none, some (.int y4), some (.ref 3), some (.int y6), none, some (.int y8), some (.int y9), some (.int y10), some (.int (fX5_leadsTo y2 y6 y10 1 3 I))], [(.int y8), (.int (fX5_leadsTo y2 y6 y10 1 3 I)), (.int (y1 + 1)), (.ref 42)]), (107, (mf_put I 43 6 y1 y10), J, mm_rf 3 sp rr w nw))) (b := ((197, [some (.ref 42), some (.int y1), some (.int y2), none, some (.int y4), some (.ref 3), some (.int y6), none, some (.int y8), some (.int y9), some (.int y10), some (.int (fX5_leadsTo y2 y6 y10 1 3 I))], [(.int y8), (.int (fX5_leadsTo y2 y6 y10 1 3 I)), (.int (y1 + 1)), (.ref 42)]), (107, (mf_put I 43 6 y1 y10), J, mm_rf 3 sp rr w nw))) rfl (fun h2066 => ?_) (fun h2066 => ?_)
            · rw [if_pos h2066] at e
              refine mm_T.seg (f' := (206, [some (.ref 42), some (.int y1), some (.int y2), none, some (.int y4), some (.ref 3), some (.int y6), none, some (.int y8), some (.int y9), some (.int y10), some (.int (fX5_leadsTo y2 y6 y10 1 3 I))], [(.int y4), (.int y8), (.int (fX5_leadsTo y2 y6 y10 1 3 I)), (.int (y1 + 1)), (.ref 42)])) (h' := (107, (mf_put I 43 6 y1 y10), J, mm_rf 3 sp rr w nw)) 1 rfl ?_
              obtain ⟨o2067, eo2067, e⟩ := mm_bind e
              refine mm_T.call (t := 127) (as := [(.ref 42), (.int (y1 + 1)), (.int (fX5_leadsTo y2 y6 y10 1 3 I)), (.int y8), (.int y4)]) (f' := (209, [some (.ref 42), some (.int y1), some (.int y2), none, some (.int y4), some (.ref 3), some (.int y6), none, some (.int y8), some (.int y9), some (.int y10), some (.int (fX5_leadsTo y2 y6 y10 1 3 I))], [])) rfl (mm_T.deep (hrec (y1 + 1) (fX5_leadsTo y2 y6 y10 1 3 I) y8 y4 (mf_put I 43 6 y1 y10) J 3 sp rr w nw (Or.inl rfl) o2067 eo2067) (by omega)) (fun v h hq => ?_)
              obtain ⟨rfl, rfl⟩ := hq
              refine mm_T.seg (f' := (132, [some (.ref 42), some (.int y1), some (.int y2), none, some (.int y4), some (.ref 3), some (.int y6), none, some (.int y8), some (.int y9), some (.int (y10 + 1)), some (.int (fX5_leadsTo y2 y6 y10 1 3 I))], [])) (h' := (107, o2067, J, mm_rf 3 sp rr w nw)) 2 rfl ?_
              refine mm_T.mask [true, true, true, false, true, true, true, false, true, true, true, false] ?_
              exact ih y1 y2 y4 y6 y8 y9 (y10 + 1) o2067 J 3 sp rr w nw (Or.inl rfl) out e k
            · rw [if_neg h2066] at e
              refine mm_T.seg (f' := (206, [some (.ref 42), some (.int y1), some (.int y2), none, some (.int y4), some (.ref 3), some (.int y6), none, some (.int y8), some (.int y9), some (.int y10), some (.int (fX5_leadsTo y2 y6 y10 1 3 I))], [(.int (y4 + 1)), (.int y8), (.int (fX5_leadsTo y2 y6 y10 1 3 I)), (.int (y1 + 1)), (.ref 42)])) (h' := (107, (mf_put I 43 6 y1 y10), J, mm_rf 3 sp rr w nw)) 4 rfl ?_
              obtain ⟨o2068, eo2068, e⟩ := mm_bind e
              refine mm_T.call (t := 127) (as := [(.ref 42), (.int (y1 + 1)), (.int (fX5_leadsTo y2 y6 y10 1 3 I)), (.int y8), (.int (y4 + 1))]) (f' := (209, [some (.ref 42), some (.int y1), some (.int y2), none, some (.int y4), some (.ref 3), some (.int y6), none, some (.int y8), some (.int y9), some (.int y10), some (.int (fX5_leadsTo y2 y6 y10 1 3 I))], [])) rfl (mm_T.deep (hrec (y1 + 1) (fX5_leadsTo y2 y6 y10 1 3 I) y8 (y4 + 1) (mf_put I 43 6 y1 y10) J 3 sp rr w nw (Or.inl rfl) o2068 eo2068) (by omega)) (fun v h hq => ?_)
              obtain ⟨rfl, rfl⟩ := hq
              refine mm_T.seg (f' := (132, [some (.ref 42), some (.int y1), some (.int y2), none, some (.int y4), some (.ref 3), some (.int y6), none, some (.int y8), some (.int y9), some (.int (y10 + 1)), some (.int (fX5_leadsTo y2 y6 y10 1 3 I))], [])) (h' := (107, o2068, J, mm_rf 3 sp rr w nw)) 2 rfl ?_
              refine mm_T.mask [true, true, true, false, true, true, true, false, true, true, true, false] ?_
              exact ih y1 y2 y4 y6 y8 y9 (y10 + 1) o2068 J 3 sp rr w nw (Or.inl rfl) out e k
          · rw [if_neg h2065] at e
            refine mm_T.seg (f' := (194, [some (.ref 42), some (.int y1), some (.int y2), none, some (.int y4), some (.ref 3), some (.int y6), none, some (.int y8), some (.int y9), some (.int y10), some (.int (fX5_leadsTo y2 y6 y10 1 3 I))], [(.int y9), (.int 0), (.int (fX5_leadsTo y2 y6 y10 1 3 I)), (.int (y1 + 1)), (.ref 42)])) (h' := (107, (mf_put I 43 6 y1 y10), J, mm_rf 3 sp rr w nw)) 3 rfl ?_
            refine mm_T.br (c := y9 = 0) (a := ((204, [some (.ref 42), some (.int y1), some (.int y2), none, some (.int y4), some (.ref 3), some (.int y6), none, some (.int y8), some (.int y9), some (.int y10), some (.int (fX5_leadsTo y2 y6 y10 1 3 I))], [(.int 0), (.int (fX5_leadsTo y2 y6 y10 1 3 I)), (.int (y1 + 1)), (.ref 42)]), (107, (mf_put I 43 6 y1 y10), J, mm_rf 3 sp rr w nw))) (b := ((197, [some (.ref 42), some (.int y1), some (.int y2), none, some (.int y4), some (.ref 3), some (.int y6), none, some (.int y8), some (.int y9), some (.int y10), some (.int (fX5_leadsTo y2 y6 y10 1 3 I))], [(.int 0), (.int (fX5_leadsTo y2 y6 y10 1 3 I)), (.int (y1 + 1)), (.ref 42)]), (107, (mf_put I 43 6 y1 y10), J, mm_rf 3 sp rr w nw))) rfl (fun h2069 => ?_) (fun h2069 => ?_)
            · rw [if_pos h2069] at e
              refine mm_T.seg (f' := (206, [some (.ref 42), some (.int y1), some (.int y2), none, some (.int y4), some (.ref 3), some (.int y6), none, some (.int y8), some (.int y9), some (.int y10), some (.int (fX5_leadsTo y2 y6 y10 1 3 I))], [(.int y4), (.int 0), (.int (fX5_leadsTo y2 y6 y10 1 3 I)), (.int (y1 + 1)), (.ref 42)])) (h' := (107, (mf_put I 43 6 y1 y10), J, mm_rf 3 sp rr w nw)) 1 rfl ?_
              obtain ⟨o2070, eo2070, e⟩ := mm_bind e
              refine mm_T.call (t := 127) (as := [(.ref 42), (.int (y1 + 1)), (.int (fX5_leadsTo y2 y6 y10 1 3 I)), (.int 0), (.int y4)]) (f' := (209, [some (.ref 42), some (.int y1), some (.int y2), none, some (.int y4), some (.ref 3), some (.int y6), none, some (.int y8), some (.int y9), some (.int y10), some (.int (fX5_leadsTo y2 y6 y10 1 3 I))], [])) rfl (mm_T.deep (hrec (y1 + 1) (fX5_leadsTo y2 y6 y10 1 3 I) 0 y4 (mf_put I 43 6 y1 y10) J 3 sp rr w nw (Or.inl rfl) o2070 eo2070) (by omega)) (fun v h hq => ?_)
              obtain ⟨rfl, rfl⟩ := hq
              refine mm_T.seg (f' := (132, [some (.ref 42), some (.int y1), some (.int y2), none, some (.int y4), some (.ref 3), some (.int y6), none, some (.int y8), some (.int y9), some (.int (y10 + 1)), some (.int (fX5_leadsTo y2 y6 y10 1 3 I))], [])) (h' := (107, o2070, J, mm_rf 3 sp rr w nw)) 2 rfl ?_
              refine mm_T.mask [true, true, true, false, true, true, true, false, true, true, true, false] ?_
              exact ih y1 y2 y4 y6 y8 y9 (y10 + 1) o2070 J 3 sp rr w nw (Or.inl rfl) out e k
            · rw [if_neg h2069] at e
              refine mm_T.seg (f' := (206, [some (.ref 42), some (.int y1), some (.int y2), none, some (.int y4), some (.ref 3), some (.int y6), none, some (.int y8), some (.int y9), some (.int y10), some (.int (fX5_leadsTo y2 y6 y10 1 3 I))], [(.int (y4 + 1)), (.int 0), (.int (fX5_leadsTo y2 y6 y10 1 3 I)), (.int (y1 + 1)), (.ref 42)])) (h' := (107, (mf_put I 43 6 y1 y10), J, mm_rf 3 sp rr w nw)) 4 rfl ?_
              obtain ⟨o2071, eo2071, e⟩ := mm_bind e
              refine mm_T.call (t := 127) (as := [(.ref 42), (.int (y1 + 1)), (.int (fX5_leadsTo y2 y6 y10 1 3 I)), (.int 0), (.int (y4 + 1))]) (f' := (209, [some (.ref 42), some (.int y1), some (.int y2), none, some (.int y4), some (.ref 3), some (.int y6), none, some (.int y8), some (.int y9), some (.int y10), some (.int (fX5_leadsTo y2 y6 y10 1 3 I))], [])) rfl (mm_T.deep (hrec (y1 + 1) (fX5_leadsTo y2 y6 y10 1 3 I) 0 (y4 + 1) (mf_put I 43 6 y1 y10) J 3 sp rr w nw (Or.inl rfl) o2071 eo2071) (by omega)) (fun v h hq => ?_)
              obtain ⟨rfl, rfl⟩ := hq
              refine mm_T.seg (f' := (132, [some (.ref 42), some (.int y1), some (.int y2), none, some (.int y4), some (.ref 3), some (.int y6), none, some (.int y8), some (.int y9), some (.int (y10 + 1)), some (.int (fX5_leadsTo y2 y6 y10 1 3 I))], [])) (h' := (107, o2071, J, mm_rf 3 sp rr w nw)) 2 rfl ?_
              refine mm_T.mask [true, true, true, false, true, true, true, false, true, true, true, false] ?_
              exact ih y1 y2 y4 y6 y8 y9 (y10 + 1) o2071 J 3 sp rr w nw (Or.inl rfl) out e k
        · rw [if_neg h2064] at e
          refine mm_T.seg (f' := (132, [some (.ref 42), some (.int y1), some (.int y2), none, some (.int y4), some (.ref 3), some (.int y6), none, some (.int y8), some (.int y9), some (.int (y10 + 1)), some (.int (fX5_leadsTo y2 y6 y10 1 3 I))], [])) (h' := (107, I, J, mm_rf 3 sp rr w nw)) 2 rfl ?_
          refine mm_T.mask [true, true, true, false, true, true, true, false, true, true, true, false] ?_
          exact ih y1 y2 y4 y6 y8 y9 (y10 + 1) I J 3 sp rr w nw (Or.inl rfl) out e k
    · rw [fX8_goOn_L132] at e
      refine mm_T.seg (f' := (135, [some (.ref 42), some (.int y1), some (.int y2), none, some (.int y4), some (.ref 19), some (.int y6), none, some (.int y8), some (.int y9), some (.int y10), none], [(.int 1), (.int y10)])) (h' := (107, I, J, mm_rf 19 sp rr w nw)) 2 rfl ?_
      refine mm_T.br (c := 1 < y10) (a := ((215, [some (.ref 42), some (.int y1), some (.int y2), none, some (.int y4), some (.ref 19), some (.int y6), none, some (.int y8), some (.int y9), some (.int y10), none], []), (107, I, J, mm_rf 19 sp rr w nw))) (b := ((138, [some (.ref 42), some (.int y1), some (.int y2), none, some (.int y4), some (.ref 19), some (.int y6), none, some (.int y8), some (.int y9), some (.int y10), none], []), (107, I, J, mm_rf 19 sp rr w nw))) rfl (fun h2063 => ?_) (fun h2063 => ?_)
      · rw [if_pos h2063] at e
        cases e
        refine mm_T.mask [false, false, false, false, false, false, false, false, false, false, false, false] ?_
        exact k
      · rw [if_neg h2063] at e
        refine mm_T.seg (f' := (146, [some (.ref 42), some (.int y1), some (.int y2), none, some (.int y4), some (.ref 19), some (.int y6), none, some (.int y8), some (.int y9), some (.int y10), none], [(.int 1), (.int y10), (.int y6), (.int y2), (.ref 19)])) (h' := (107, I, J, mm_rf 19 sp rr w nw)) 5 rfl ?_
        refine mm_T.call (t := 81) (as := [(.ref 19), (.int y2), (.int y6), (.int y10), (.int 1)]) (f' := (149, [some (.ref 42), some (.int y1), some (.int y2), none, some (.int y4), some (.ref 19), some (.int y6), none, some (.int y8), some (.int y9), some (.int y10), none], [])) rfl (tX5_leadsTo (d + 2) y2 y6 y10 1 19 I J 19 sp rr w nw (Or.inr rfl) _ rfl) (fun v h hq => ?_)
        obtain ⟨rfl, rfl⟩ := hq
        refine mm_T.seg (f' := (159, [some (.ref 42), some (.int y1), some (.int y2), none, some (.int y4), some (.ref 19), some (.int y6), none, some (.int y8), some (.int y9), some (.int y10), some (.int (fX5_leadsTo y2 y6 y10 1 19 I))], [(.int (y6 + 1)), (.int (fX5_leadsTo y2 y6 y10 1 19 I)), (.ref 19)])) (h' := (107, I, J, mm_rf 19 sp rr w nw)) 6 rfl ?_
        refine mm_T.call (t := 69) (as := [(.ref 19), (.int (fX5_leadsTo y2 y6 y10 1 19 I)), (.int (y6 + 1))]) (f' := (162, [some (.ref 42), some (.int y1), some (.int y2), none, some (.int y4), some (.ref 19), some (.int y6), none, some (.int y8), some (.int y9), some (.int y10), some (.int (fX5_leadsTo y2 y6 y10 1 19 I))], [])) rfl (tX5_ironAt (d + 2) (fX5_leadsTo y2 y6 y10 1 19 I) (y6 + 1) 19 I J 19 sp rr w nw (Or.inr rfl) _ rfl) (fun v h hq => ?_)
        obtain ⟨rfl, rfl⟩ := hq
        refine mm_T.br (c := (fX5_ironAt (fX5_leadsTo y2 y6 y10 1 19 I) (y6 + 1) 19 I) = 0) (a := ((165, [some (.ref 42), some (.int y1), some (.int y2), none, some (.int y4), some (.ref 19), some (.int y6), none, some (.int y8), some (.int y9), some (.int y10), some (.int (fX5_leadsTo y2 y6 y10 1 19 I))], []), (107, I, J, mm_rf 19 sp rr w nw))) (b := ((209, [some (.ref 42), some (.int y1), some (.int y2), none, some (.int y4), some (.ref 19), some (.int y6), none, some (.int y8), some (.int y9), some (.int y10), some (.int (fX5_leadsTo y2 y6 y10 1 19 I))], []), (107, I, J, mm_rf 19 sp rr w nw))) rfl (fun h2064 => ?_) (fun h2064 => ?_)
        · rw [if_pos h2064] at e
          refine mm_T.seg (f' := (172, [some (.ref 42), some (.int y1), some (.int y2), none, some (.int y4), some (.ref 19), some (.int y6), none, some (.int y8), some (.int y9), some (.int y10), some (.int (fX5_leadsTo y2 y6 y10 1 19 I))], [(.int y10), (.int y1), (.ref 43)])) (h' := (107, I, J, mm_rf 19 sp rr w nw)) 4 rfl ?_
          refine mm_T.call (t := 205) (as := [(.ref 43), (.int y1), (.int y10)]) (f' := (175, [some (.ref 42), some (.int y1), some (.int y2), none, some (.int y4), some (.ref 19), some (.int y6), none, some (.int y8), some (.int y9), some (.int y10), some (.int (fX5_leadsTo y2 y6 y10 1 19 I))], [])) rfl (t_put _ 43 6 y1 y10 I J (mm_rf 19 sp rr w nw) rfl rfl) (fun v h hq => ?_)
          obtain ⟨rfl, rfl⟩ := hq
          refine mm_T.seg (f' := (183, [some (.ref 42), some (.int y1), some (.int y2), none, some (.int y4), some (.ref 19), some (.int y6), none, some (.int y8), some (.int y9), some (.int y10), some (.int (fX5_leadsTo y2 y6 y10 1 19 I))], [(.int y9), (.int (fX5_leadsTo y2 y6 y10 1 19 I)), (.int (y1 + 1)), (.ref 42)])) (h' := (107, (mf_put I 43 6 y1 y10), J, mm_rf 19 sp rr w nw)) 6 rfl ?_
          refine mm_T.br (c := y9 = 0) (a := ((190, [some (.ref 42), some (.int y1), some (.int y2), none, some (.int y4), some (.ref 19), some (.int y6), none, some (.int y8), some (.int y9), some (.int y10), some (.int (fX5_leadsTo y2 y6 y10 1 19 I))], [(.int (fX5_leadsTo y2 y6 y10 1 19 I)), (.int (y1 + 1)), (.ref 42)]), (107, (mf_put I 43 6 y1 y10), J, mm_rf 19 sp rr w nw))) (b := ((186, [some (.ref 42), some (.int y1), some (.int y2), none, some (.int y4), some (.ref 19), some (.int y6), none, some (.int y8), some (.int y9), some (.int y10), some (.int (fX5_leadsTo y2 y6 y10 1 19 I))], [(.int (fX5_leadsTo y2 y6 y10 1 19 I)), (.int (y1 + 1)), (.ref 42)]), (107, (mf_put I 43 6 y1 y10), J, mm_rf 19 sp rr w nw))) rfl (fun h2065 => ?_) (fun h2065 => ?_)
          · rw [if_pos h2065] at e
            refine mm_T.seg (f' := (194, [some (.ref 42), some (.int y1), some (.int y2), none, some (.int y4), some (.ref 19), some (.int y6), none, some (.int y8), some (.int y9), some (.int y10), some (.int (fX5_leadsTo y2 y6 y10 1 19 I))], [(.int y9), (.int y8), (.int (fX5_leadsTo y2 y6 y10 1 19 I)), (.int (y1 + 1)), (.ref 42)])) (h' := (107, (mf_put I 43 6 y1 y10), J, mm_rf 19 sp rr w nw)) 2 rfl ?_
            refine mm_T.br (c := y9 = 0) (a := ((204, [some (.ref 42), some (.int y1), some (.int y2), none, some (.int y4), some (.ref 19), some (.int y6), none, some (.int y8), some (.int y9), some (.int y10), some (.int (fX5_leadsTo y2 y6 y10 1 19 I))], [(.int y8), (.int (fX5_leadsTo y2 y6 y10 1 19 I)), (.int (y1 + 1)), (.ref 42)]), (107, (mf_put I 43 6 y1 y10), J, mm_rf 19 sp rr w nw))) (b := ((197, [some (.ref 42), some (.int y1), some (.int y2), none, some (.int y4), some (.ref 19), some (.int y6), none, some (.int y8), some (.int y9), some (.int y10), some (.int (fX5_leadsTo y2 y6 y10 1 19 I))], [(.int y8), (.int (fX5_leadsTo y2 y6 y10 1 19 I)), (.int (y1 + 1)), (.ref 42)]), (107, (mf_put I 43 6 y1 y10), J, mm_rf 19 sp rr w nw))) rfl (fun h2066 => ?_) (fun h2066 => ?_)
            · rw [if_pos h2066] at e
              refine mm_T.seg (f' := (206, [some (.ref 42), some (.int y1), some (.int y2), none, some (.int y4), some (.ref 19), some (.int y6), none, some (.int y8), some (.int y9), some (.int y10), some (.int (fX5_leadsTo y2 y6 y10 1 19 I))], [(.int y4), (.int y8), (.int (fX5_leadsTo y2 y6 y10 1 19 I)), (.int (y1 + 1)), (.ref 42)])) (h' := (107, (mf_put I 43 6 y1 y10), J, mm_rf 19 sp rr w nw)) 1 rfl ?_
              obtain ⟨o2067, eo2067, e⟩ := mm_bind e
              refine mm_T.call (t := 127) (as := [(.ref 42), (.int (y1 + 1)), (.int (fX5_leadsTo y2 y6 y10 1 19 I)), (.int y8), (.int y4)]) (f' := (209, [some (.ref 42), some (.int y1), some (.int y2), none, some (.int y4), some (.ref 19), some (.int y6), none, some (.int y8), some (.int y9), some (.int y10), some (.int (fX5_leadsTo y2 y6 y10 1 19 I))], [])) rfl (mm_T.deep (hrec (y1 + 1) (fX5_leadsTo y2 y6 y10 1 19 I) y8 y4 (mf_put I 43 6 y1 y10) J 19 sp rr w nw (Or.inr rfl) o2067 eo2067) (by omega)) (fun v h hq => ?_)
              obtain ⟨rfl, rfl⟩ := hq
              refine mm_T.seg (f' := (132, [some (.ref 42), some (.int y1), some (.int y2), none, some (.int y4), some (.ref 19), some (.int y6), none, some (.int y8), some (.int y9), some (.int (y10 + 1)), some (.int (fX5_leadsTo y2 y6 y10 1 19 I))], [])) (h' := (107, o2067, J, mm_rf 19 sp rr w nw)) 2 rfl ?_
              refine mm_T.mask [true, true, true, false, true, true, true, false, true, true, true, false] ?_
              exact ih y1 y2 y4 y6 y8 y9 (y10 + 1) o2067 J 19 sp rr w nw (Or.inr rfl) out e k
            · rw [if_neg h2066] at e
              refine mm_T.seg (f' := (206, [some (.ref 42), some (.int y1), some (.int y2), none, some (.int y4), some (.ref 19), some (.int y6), none, some (.int y8), some (.int y9), some (.int y10), some (.int (fX5_leadsTo y2 y6 y10 1 19 I))], [(.int (y4 + 1)), (.int y8), (.int (fX5_leadsTo y2 y6 y10 1 19 I)), (.int (y1 + 1)), (.ref 42)])) (h' := (107, (mf_put I 43 6 y1 y10), J, mm_rf 19 sp rr w nw)) 4 rfl ?_
              obtain ⟨o2068, eo2068, e⟩ := mm_bind e
              refine mm_T.call (t := 127) (as := [(.ref 42), (.int (y1 + 1)), (.int (fX5_leadsTo y2 y6 y10 1 19 I)), (.int y8), (.int (y4 + 1))]) (f' := (209, [some (.ref 42), some (.int y1), some (.int y2), none, some (.int y4), some (.ref 19), some (.int y6), none, some (.int y8), some (.int y9), some (.int y10), some (.int (fX5_leadsTo y2 y6 y10 1 19 I))], [])) rfl (mm_T.deep (hrec (y1 + 1) (fX5_leadsTo y2 y6 y10 1 19 I) y8 (y4 + 1) (mf_put I 43 6 y1 y10) J 19 sp rr w nw (Or.inr rfl) o2068 eo2068) (by omega)) (fun v h hq => ?_)
              obtain ⟨rfl, rfl⟩ := hq
              refine mm_T.seg (f' := (132, [some (.ref 42), some (.int y1), some (.int y2), none, some (.int y4), some (.ref 19), some (.int y6), none, some (.int y8), some (.int y9), some (.int (y10 + 1)), some (.int (fX5_leadsTo y2 y6 y10 1 19 I))], [])) (h' := (107, o2068, J, mm_rf 19 sp rr w nw)) 2 rfl ?_
              refine mm_T.mask [true, true, true, false, true, true, true, false, true, true, true, false] ?_
              exact ih y1 y2 y4 y6 y8 y9 (y10 + 1) o2068 J 19 sp rr w nw (Or.inr rfl) out e k
          · rw [if_neg h2065] at e
            refine mm_T.seg (f' := (194, [some (.ref 42), some (.int y1), some (.int y2), none, some (.int y4), some (.ref 19), some (.int y6), none, some (.int y8), some (.int y9), some (.int y10), some (.int (fX5_leadsTo y2 y6 y10 1 19 I))], [(.int y9), (.int 0), (.int (fX5_leadsTo y2 y6 y10 1 19 I)), (.int (y1 + 1)), (.ref 42)])) (h' := (107, (mf_put I 43 6 y1 y10), J, mm_rf 19 sp rr w nw)) 3 rfl ?_
            refine mm_T.br (c := y9 = 0) (a := ((204, [some (.ref 42), some (.int y1), some (.int y2), none, some (.int y4), some (.ref 19), some (.int y6), none, some (.int y8), some (.int y9), some (.int y10), some (.int (fX5_leadsTo y2 y6 y10 1 19 I))], [(.int 0), (.int (fX5_leadsTo y2 y6 y10 1 19 I)), (.int (y1 + 1)), (.ref 42)]), (107, (mf_put I 43 6 y1 y10), J, mm_rf 19 sp rr w nw))) (b := ((197, [some (.ref 42), some (.int y1), some (.int y2), none, some (.int y4), some (.ref 19), some (.int y6), none, some (.int y8), some (.int y9), some (.int y10), some (.int (fX5_leadsTo y2 y6 y10 1 19 I))], [(.int 0), (.int (fX5_leadsTo y2 y6 y10 1 19 I)), (.int (y1 + 1)), (.ref 42)]), (107, (mf_put I 43 6 y1 y10), J, mm_rf 19 sp rr w nw))) rfl (fun h2069 => ?_) (fun h2069 => ?_)
            · rw [if_pos h2069] at e
              refine mm_T.seg (f' := (206, [some (.ref 42), some (.int y1), some (.int y2), none, some (.int y4), some (.ref 19), some (.int y6), none, some (.int y8), some (.int y9), some (.int y10), some (.int (fX5_leadsTo y2 y6 y10 1 19 I))], [(.int y4), (.int 0), (.int (fX5_leadsTo y2 y6 y10 1 19 I)), (.int (y1 + 1)), (.ref 42)])) (h' := (107, (mf_put I 43 6 y1 y10), J, mm_rf 19 sp rr w nw)) 1 rfl ?_
              obtain ⟨o2070, eo2070, e⟩ := mm_bind e
              refine mm_T.call (t := 127) (as := [(.ref 42), (.int (y1 + 1)), (.int (fX5_leadsTo y2 y6 y10 1 19 I)), (.int 0), (.int y4)]) (f' := (209, [some (.ref 42), some (.int y1), some (.int y2), none, some (.int y4), some (.ref 19), some (.int y6), none, some (.int y8), some (.int y9), some (.int y10), some (.int (fX5_leadsTo y2 y6 y10 1 19 I))], [])) rfl (mm_T.deep (hrec (y1 + 1) (fX5_leadsTo y2 y6 y10 1 19 I) 0 y4 (mf_put I 43 6 y1 y10) J 19 sp rr w nw (Or.inr rfl) o2070 eo2070) (by omega)) (fun v h hq => ?_)
              obtain ⟨rfl, rfl⟩ := hq
              refine mm_T.seg (f' := (132, [some (.ref 42), some (.int y1), some (.int y2), none, some (.int y4), some (.ref 19), some (.int y6), none, some (.int y8), some (.int y9), some (.int (y10 + 1)), some (.int (fX5_leadsTo y2 y6 y10 1 19 I))], [])) (h' := (107, o2070, J, mm_rf 19 sp rr w nw)) 2 rfl ?_
              refine mm_T.mask [true, true, true, false, true, true, true, false, true, true, true, false] ?_
              exact ih y1 y2 y4 y6 y8 y9 (y10 + 1) o2070 J 19 sp rr w nw (Or.inr rfl) out e k
            · rw [if_neg h2069] at e
              refine mm_T.seg (f' := (206, [some (.ref 42), some (.int y1), some (.int y2), none, some (.int y4), some (.ref 19), some (.int y6), none, some (.int y8), some (.int y9), some (.int y10), some (.int (fX5_leadsTo y2 y6 y10 1 19 I))], [(.int (y4 + 1)), (.int 0), (.int (fX5_leadsTo y2 y6 y10 1 19 I)), (.int (y1 + 1)), (.ref 42)])) (h' := (107, (mf_put I 43 6 y1 y10), J, mm_rf 19 sp rr w nw)) 4 rfl ?_
              obtain ⟨o2071, eo2071, e⟩ := mm_bind e
              refine mm_T.call (t := 127) (as := [(.ref 42), (.int (y1 + 1)), (.int (fX5_leadsTo y2 y6 y10 1 19 I)), (.int 0), (.int (y4 + 1))]) (f' := (209, [some (.ref 42), some (.int y1), some (.int y2), none, some (.int y4), some (.ref 19), some (.int y6), none, some (.int y8), some (.int y9), some (.int y10), some (.int (fX5_leadsTo y2 y6 y10 1 19 I))], [])) rfl (mm_T.deep (hrec (y1 + 1) (fX5_leadsTo y2 y6 y10 1 19 I) 0 (y4 + 1) (mf_put I 43 6 y1 y10) J 19 sp rr w nw (Or.inr rfl) o2071 eo2071) (by omega)) (fun v h hq => ?_)
              obtain ⟨rfl, rfl⟩ := hq
              refine mm_T.seg (f' := (132, [some (.ref 42), some (.int y1), some (.int y2), none, some (.int y4), some (.ref 19), some (.int y6), none, some (.int y8), some (.int y9), some (.int (y10 + 1)), some (.int (fX5_leadsTo y2 y6 y10 1 19 I))], [])) (h' := (107, o2071, J, mm_rf 19 sp rr w nw)) 2 rfl ?_
              refine mm_T.mask [true, true, true, false, true, true, true, false, true, true, true, false] ?_
              exact ih y1 y2 y4 y6 y8 y9 (y10 + 1) o2071 J 19 sp rr w nw (Or.inr rfl) out e k
        · rw [if_neg h2064] at e
          refine mm_T.seg (f' := (132, [some (.ref 42), some (.int y1), some (.int y2), none, some (.int y4), some (.ref 19), some (.int y6), none, some (.int y8), some (.int y9), some (.int (y10 + 1)), some (.int (fX5_leadsTo y2 y6 y10 1 19 I))], [])) (h' := (107, I, J, mm_rf 19 sp rr w nw)) 2 rfl ?_
          refine mm_T.mask [true, true, true, false, true, true, true, false, true, true, true, false] ?_
          exact ih y1 y2 y4 y6 y8 y9 (y10 + 1) I J 19 sp rr w nw (Or.inr rfl) out e k
set_option maxRecDepth 100000 in
set_option maxHeartbeats 4000000 in
theorem tX8_goOn_B (d n : Nat) (rec : Int32 → Int32 → Int32 → Int32 → (Nat → Nat → Int32) → Nat → Option ((Nat → Nat → Int32))) (hrec : ∀ (x1 : Int32) (x2 : Int32) (x3 : Int32) (x4 : Int32) (I : Nat → Nat → Int32) (J : Nat → Nat → Int64) (rv sp rr w nw : Nat), (rv = 3 ∨ rv = 19) → ∀ (out : (Nat → Nat → Int32)), rec x1 x2 x3 x4 I rv = some out → mm_T none d 127 (mm_ent 127 [(.ref 42), (.int x1), (.int x2), (.int x3), (.int x4)]) (107, I, J, mm_rf rv sp rr w nw) (fun v h => v = none ∧ h = (107, out, J, mm_rf rv sp rr w nw))) (x1 : Int32) (x2 : Int32) (x3 : Int32) (x4 : Int32) (I : Nat → Nat → Int32) (J : Nat → Nat → Int64) (rv sp rr w nw : Nat) (hrv : rv = 3 ∨ rv = 19) (out : (Nat → Nat → Int32)) (e : fX8_goOn_B n rec x1 x2 x3 x4 I rv = some out) : mm_T none (d + 4) 127 (mm_ent 127 [(.ref 42), (.int x1), (.int x2), (.int x3), (.int x4)]) (107, I, J, mm_rf rv sp rr w nw) (fun v h => v = none ∧ h = (107, out, J, mm_rf rv sp rr w nw)) := by
  rcases hrv with rfl | rfl
  · unfold fX8_goOn_B at e
    refine mm_T.seg (f' := (4, [some (.ref 42), some (.int x1), some (.int x2), some (.int x3), some (.int x4), none, none, none, none, none, none, none], [(.int (I 42 4))])) (h' := (107, I, J, mm_rf 3 sp rr w nw)) 2 rfl ?_
    refine mm_T.br (c := (I 42 4) = 0) (a := ((17, [some (.ref 42), some (.int x1), some (.int x2), some (.int x3), some (.int x4), none, none, none, none, none, none, none], []), (107, I, J, mm_rf 3 sp rr w nw))) (b := ((7, [some (.ref 42), some (.int x1), some (.int x2), some (.int x3), some (.int x4), none, none, none, none, none, none, none], []), (107, I, J, mm_rf 3 sp rr w nw))) rfl (fun h2059 => ?_) (fun h2059 => ?_)
    · rw [if_pos h2059] at e
      refine mm_T.seg (f' := (26, [some (.ref 42), some (.int x1), some (.int x2), some (.int x3), some (.int x4), none, none, none, none, none, none, none], [(.int (I 42 2)), (.ref 18), (.int x1)])) (h' := (107, I, J, mm_rf 3 sp rr w nw)) 5 rfl ?_
      refine mm_T.call (t := 111) (as := [(.ref 18), (.int (I 42 2))]) (f' := (29, [some (.ref 42), some (.int x1), some (.int x2), some (.int x3), some (.int x4), none, none, none, none, none, none, none], [(.int x1)])) rfl (tX7_strokesLeft (d + 0) (I 42 2) I J 3 sp rr w nw (Or.inl rfl) _ rfl) (fun v h hq => ?_)
      obtain ⟨rfl, rfl⟩ := hq
      refine mm_T.br (c := x1 < (fX7_strokesLeft (I 42 2) I 3)) (a := ((41, [some (.ref 42), some (.int x1), some (.int x2), some (.int x3), some (.int x4), none, none, none, none, none, none, none], []), (107, I, J, mm_rf 3 sp rr w nw))) (b := ((32, [some (.ref 42), some (.int x1), some (.int x2), some (.int x3), some (.int x4), none, none, none, none, none, none, none], []), (107, I, J, mm_rf 3 sp rr w nw))) rfl (fun h2060 => ?_) (fun h2060 => ?_)
      · rw [if_pos h2060] at e
        refine mm_T.seg (f' := (58, [some (.ref 42), some (.int x1), some (.int x2), some (.int x3), some (.int x4), some (.ref 3), none, none, none, none, none, none], [(.int (I 42 2)), (.ref 18)])) (h' := (107, I, J, mm_rf 3 sp rr w nw)) 8 rfl ?_
        refine mm_T.call (t := 106) (as := [(.ref 18), (.int (I 42 2))]) (f' := (61, [some (.ref 42), some (.int x1), some (.int x2), some (.int x3), some (.int x4), some (.ref 3), none, none, none, none, none, none], [])) rfl (tX7_rowOf (d + 1) (I 42 2) I J 3 sp rr w nw _ rfl) (fun v h hq => ?_)
        obtain ⟨rfl, rfl⟩ := hq
        refine mm_T.seg (f' := (86, [some (.ref 42), some (.int x1), some (.int x2), some (.int x3), some (.int x4), some (.ref 3), some (.int ((fX7_rowOf (I 42 2) I) + x1)), none, none, none, none, none], [(.int (I 42 2)), (.ref 18), (.int (I 42 3)), (.int x2), (.int ((fX7_rowOf (I 42 2) I) + x1)), (.int (I 42 2)), (.ref 3)])) (h' := (107, I, J, mm_rf 3 sp rr w nw)) 14 rfl ?_
        refine mm_T.call (t := 110) (as := [(.ref 18), (.int (I 42 2))]) (f' := (89, [some (.ref 42), some (.int x1), some (.int x2), some (.int x3), some (.int x4), some (.ref 3), some (.int ((fX7_rowOf (I 42 2) I) + x1)), none, none, none, none, none], [(.int (I 42 3)), (.int x2), (.int ((fX7_rowOf (I 42 2) I) + x1)), (.int (I 42 2)), (.ref 3)])) rfl (tX7_strokesOf (d + 1) (I 42 2) I J 3 sp rr w nw _ rfl) (fun v h hq => ?_)
        obtain ⟨rfl, rfl⟩ := hq
        refine mm_T.seg (f' := (92, [some (.ref 42), some (.int x1), some (.int x2), some (.int x3), some (.int x4), some (.ref 3), some (.int ((fX7_rowOf (I 42 2) I) + x1)), none, none, none, none, none], [(.int x3), (.int ((fX7_strokesOf (I 42 2) I) + x1)), (.int (I 42 3)), (.int x2), (.int ((fX7_rowOf (I 42 2) I) + x1)), (.int (I 42 2)), (.ref 3)])) (h' := (107, I, J, mm_rf 3 sp rr w nw)) 3 rfl ?_
        obtain ⟨o2061, eo2061, e⟩ := mm_bind e
        refine mm_T.call (t := 82) (as := [(.ref 3), (.int (I 42 2)), (.int ((fX7_rowOf (I 42 2) I) + x1)), (.int x2), (.int (I 42 3)), (.int ((fX7_strokesOf (I 42 2) I) + x1)), (.int x3)]) (f' := (95, [some (.ref 42), some (.int x1), some (.int x2), some (.int x3), some (.int x4), some (.ref 3), some (.int ((fX7_rowOf (I 42 2) I) + x1)), none, none, none, none, none], [])) rfl (tX5_warmth (d + 1) n (I 42 2) ((fX7_rowOf (I 42 2) I) + x1) x2 (I 42 3) ((fX7_strokesOf (I 42 2) I) + x1) x3 3 I J 3 sp rr w nw (Or.inl rfl) o2061 eo2061) (fun v h hq => ?_)
        obtain ⟨rfl, rfl⟩ := hq
        refine mm_T.seg (f' := (103, [some (.ref 42), some (.int x1), some (.int x2), some (.int x3), some (.int x4), some (.ref 3), some (.int ((fX7_rowOf (I 42 2) I) + x1)), some (.int o2061.1), none, none, none, none], [(.int (x3 + o2061.1)), (.int 99)])) (h' := (107, o2061.2, J, mm_rf 3 sp rr w nw)) 5 rfl ?_
        refine mm_T.call (t := 348) (as := [(.int 99), (.int (x3 + o2061.1))]) (f' := (106, [some (.ref 42), some (.int x1), some (.int x2), some (.int x3), some (.int x4), some (.ref 3), some (.int ((fX7_rowOf (I 42 2) I) + x1)), some (.int o2061.1), none, none, none, none], [])) rfl (tJ9_min (d + 3) 99 (x3 + o2061.1) o2061.2 J 3 sp rr w nw _ rfl) (fun v h hq => ?_)
        obtain ⟨rfl, rfl⟩ := hq
        refine mm_T.seg (f' := (116, [some (.ref 42), some (.int x1), some (.int x2), some (.int x3), some (.int x4), some (.ref 3), some (.int ((fX7_rowOf (I 42 2) I) + x1)), some (.int o2061.1), some (.int (fJ9_min 99 (x3 + o2061.1))), none, none, none], [(.int (o2061.2 42 2)), (.ref 3), (.int (fJ9_min 99 (x3 + o2061.1)))])) (h' := (107, o2061.2, J, mm_rf 3 sp rr w nw)) 5 rfl ?_
        refine mm_T.call (t := 79) (as := [(.ref 3), (.int (o2061.2 42 2))]) (f' := (119, [some (.ref 42), some (.int x1), some (.int x2), some (.int x3), some (.int x4), some (.ref 3), some (.int ((fX7_rowOf (I 42 2) I) + x1)), some (.int o2061.1), some (.int (fJ9_min 99 (x3 + o2061.1))), none, none, none], [(.int (fJ9_min 99 (x3 + o2061.1)))])) rfl (tX5_bearsOf (d + 2) (o2061.2 42 2) 3 o2061.2 J 3 sp rr w nw (Or.inl rfl) _ rfl) (fun v h hq => ?_)
        obtain ⟨rfl, rfl⟩ := hq
        refine mm_T.br (c := (fX5_bearsOf (o2061.2 42 2) 3 o2061.2) < (fJ9_min 99 (x3 + o2061.1))) (a := ((122, [some (.ref 42), some (.int x1), some (.int x2), some (.int x3), some (.int x4), some (.ref 3), some (.int ((fX7_rowOf (I 42 2) I) + x1)), some (.int o2061.1), some (.int (fJ9_min 99 (x3 + o2061.1))), none, none, none], []), (107, o2061.2, J, mm_rf 3 sp rr w nw))) (b := ((126, [some (.ref 42), some (.int x1), some (.int x2), some (.int x3), some (.int x4), some (.ref 3), some (.int ((fX7_rowOf (I 42 2) I) + x1)), some (.int o2061.1), some (.int (fJ9_min 99 (x3 + o2061.1))), none, none, none], []), (107, o2061.2, J, mm_rf 3 sp rr w nw))) rfl (fun h2062 => ?_) (fun h2062 => ?_)
        · rw [if_pos h2062] at e
          refine mm_T.seg (f' := (132, [some (.ref 42), some (.int x1), some (.int x2), some (.int x3), some (.int x4), some (.ref 3), some (.int ((fX7_rowOf (I 42 2) I) + x1)), some (.int o2061.1), some (.int (fJ9_min 99 (x3 + o2061.1))), some (.int 1), some (.int (-1)), none], [])) (h' := (107, o2061.2, J, mm_rf 3 sp rr w nw)) 5 rfl ?_
          refine mm_T.mask [true, true, true, false, true, true, true, false, true, true, true, false] ?_
          obtain ⟨o2072, eo2072, e⟩ := mm_bind e
          refine tlX8_goOn_L132 d _ rec hrec n x1 x2 x4 ((fX7_rowOf (I 42 2) I) + x1) (fJ9_min 99 (x3 + o2061.1)) 1 (-1) o2061.2 J 3 sp rr w nw (Or.inl rfl) o2072 eo2072 ?_
          cases e
          exact mm_T.ret rfl ⟨rfl, rfl⟩
        · rw [if_neg h2062] at e
          refine mm_T.seg (f' := (132, [some (.ref 42), some (.int x1), some (.int x2), some (.int x3), some (.int x4), some (.ref 3), some (.int ((fX7_rowOf (I 42 2) I) + x1)), some (.int o2061.1), some (.int (fJ9_min 99 (x3 + o2061.1))), some (.int 0), some (.int (-1)), none], [])) (h' := (107, o2061.2, J, mm_rf 3 sp rr w nw)) 4 rfl ?_
          refine mm_T.mask [true, true, true, false, true, true, true, false, true, true, true, false] ?_
          obtain ⟨o2073, eo2073, e⟩ := mm_bind e
          refine tlX8_goOn_L132 d _ rec hrec n x1 x2 x4 ((fX7_rowOf (I 42 2) I) + x1) (fJ9_min 99 (x3 + o2061.1)) 0 (-1) o2061.2 J 3 sp rr w nw (Or.inl rfl) o2073 eo2073 ?_
          cases e
          exact mm_T.ret rfl ⟨rfl, rfl⟩
      · rw [if_neg h2060] at e
        refine mm_T.seg (f' := (37, [some (.ref 42), some (.int x1), some (.int x2), some (.int x3), some (.int x4), none, none, none, none, none, none, none], [(.int x4), (.int x3), (.int x2), (.ref 42)])) (h' := (107, I, J, mm_rf 3 sp rr w nw)) 4 rfl ?_
        obtain ⟨o2082, eo2082, e⟩ := mm_bind e
        refine mm_T.call (t := 128) (as := [(.ref 42), (.int x2), (.int x3), (.int x4)]) (f' := (40, [some (.ref 42), some (.int x1), some (.int x2), some (.int x3), some (.int x4), none, none, none, none, none, none, none], [])) rfl (tX8_noteIfCooler (d + 2) n x2 x3 x4 I J 3 sp rr w nw o2082 eo2082) (fun v h hq => ?_)
        obtain ⟨rfl, rfl⟩ := hq
        cases e
        exact mm_T.ret rfl ⟨rfl, rfl⟩
    · rw [if_neg h2059] at e
      refine mm_T.seg (f' := (13, [some (.ref 42), some (.int x1), some (.int x2), some (.int x3), some (.int x4), none, none, none, none, none, none, none], [(.int (I 42 6)), (.int x4)])) (h' := (107, I, J, mm_rf 3 sp rr w nw)) 3 rfl ?_
      refine mm_T.br (c := (I 42 6) < x4) (a := ((16, [some (.ref 42), some (.int x1), some (.int x2), some (.int x3), some (.int x4), none, none, none, none, none, none, none], []), (107, I, J, mm_rf 3 sp rr w nw))) (b := ((17, [some (.ref 42), some (.int x1), some (.int x2), some (.int x3), some (.int x4), none, none, none, none, none, none, none], []), (107, I, J, mm_rf 3 sp rr w nw))) rfl (fun h2083 => ?_) (fun h2083 => ?_)
      · rw [if_pos h2083] at e
        cases e
        exact mm_T.ret rfl ⟨rfl, rfl⟩
      · rw [if_neg h2083] at e
        refine mm_T.seg (f' := (26, [some (.ref 42), some (.int x1), some (.int x2), some (.int x3), some (.int x4), none, none, none, none, none, none, none], [(.int (I 42 2)), (.ref 18), (.int x1)])) (h' := (107, I, J, mm_rf 3 sp rr w nw)) 5 rfl ?_
        refine mm_T.call (t := 111) (as := [(.ref 18), (.int (I 42 2))]) (f' := (29, [some (.ref 42), some (.int x1), some (.int x2), some (.int x3), some (.int x4), none, none, none, none, none, none, none], [(.int x1)])) rfl (tX7_strokesLeft (d + 0) (I 42 2) I J 3 sp rr w nw (Or.inl rfl) _ rfl) (fun v h hq => ?_)
        obtain ⟨rfl, rfl⟩ := hq
        refine mm_T.br (c := x1 < (fX7_strokesLeft (I 42 2) I 3)) (a := ((41, [some (.ref 42), some (.int x1), some (.int x2), some (.int x3), some (.int x4), none, none, none, none, none, none, none], []), (107, I, J, mm_rf 3 sp rr w nw))) (b := ((32, [some (.ref 42), some (.int x1), some (.int x2), some (.int x3), some (.int x4), none, none, none, none, none, none, none], []), (107, I, J, mm_rf 3 sp rr w nw))) rfl (fun h2084 => ?_) (fun h2084 => ?_)
        · rw [if_pos h2084] at e
          refine mm_T.seg (f' := (58, [some (.ref 42), some (.int x1), some (.int x2), some (.int x3), some (.int x4), some (.ref 3), none, none, none, none, none, none], [(.int (I 42 2)), (.ref 18)])) (h' := (107, I, J, mm_rf 3 sp rr w nw)) 8 rfl ?_
          refine mm_T.call (t := 106) (as := [(.ref 18), (.int (I 42 2))]) (f' := (61, [some (.ref 42), some (.int x1), some (.int x2), some (.int x3), some (.int x4), some (.ref 3), none, none, none, none, none, none], [])) rfl (tX7_rowOf (d + 1) (I 42 2) I J 3 sp rr w nw _ rfl) (fun v h hq => ?_)
          obtain ⟨rfl, rfl⟩ := hq
          refine mm_T.seg (f' := (86, [some (.ref 42), some (.int x1), some (.int x2), some (.int x3), some (.int x4), some (.ref 3), some (.int ((fX7_rowOf (I 42 2) I) + x1)), none, none, none, none, none], [(.int (I 42 2)), (.ref 18), (.int (I 42 3)), (.int x2), (.int ((fX7_rowOf (I 42 2) I) + x1)), (.int (I 42 2)), (.ref 3)])) (h' := (107, I, J, mm_rf 3 sp rr w nw)) 14 rfl ?_
          refine mm_T.call (t := 110) (as := [(.ref 18), (.int (I 42 2))]) (f' := (89, [some (.ref 42), some (.int x1), some (.int x2), some (.int x3), some (.int x4), some (.ref 3), some (.int ((fX7_rowOf (I 42 2) I) + x1)), none, none, none, none, none], [(.int (I 42 3)), (.int x2), (.int ((fX7_rowOf (I 42 2) I) + x1)), (.int (I 42 2)), (.ref 3)])) rfl (tX7_strokesOf (d + 1) (I 42 2) I J 3 sp rr w nw _ rfl) (fun v h hq => ?_)
          obtain ⟨rfl, rfl⟩ := hq
          refine mm_T.seg (f' := (92, [some (.ref 42), some (.int x1), some (.int x2), some (.int x3), some (.int x4), some (.ref 3), some (.int ((fX7_rowOf (I 42 2) I) + x1)), none, none, none, none, none], [(.int x3), (.int ((fX7_strokesOf (I 42 2) I) + x1)), (.int (I 42 3)), (.int x2), (.int ((fX7_rowOf (I 42 2) I) + x1)), (.int (I 42 2)), (.ref 3)])) (h' := (107, I, J, mm_rf 3 sp rr w nw)) 3 rfl ?_
          obtain ⟨o2085, eo2085, e⟩ := mm_bind e
          refine mm_T.call (t := 82) (as := [(.ref 3), (.int (I 42 2)), (.int ((fX7_rowOf (I 42 2) I) + x1)), (.int x2), (.int (I 42 3)), (.int ((fX7_strokesOf (I 42 2) I) + x1)), (.int x3)]) (f' := (95, [some (.ref 42), some (.int x1), some (.int x2), some (.int x3), some (.int x4), some (.ref 3), some (.int ((fX7_rowOf (I 42 2) I) + x1)), none, none, none, none, none], [])) rfl (tX5_warmth (d + 1) n (I 42 2) ((fX7_rowOf (I 42 2) I) + x1) x2 (I 42 3) ((fX7_strokesOf (I 42 2) I) + x1) x3 3 I J 3 sp rr w nw (Or.inl rfl) o2085 eo2085) (fun v h hq => ?_)
          obtain ⟨rfl, rfl⟩ := hq
          refine mm_T.seg (f' := (103, [some (.ref 42), some (.int x1), some (.int x2), some (.int x3), some (.int x4), some (.ref 3), some (.int ((fX7_rowOf (I 42 2) I) + x1)), some (.int o2085.1), none, none, none, none], [(.int (x3 + o2085.1)), (.int 99)])) (h' := (107, o2085.2, J, mm_rf 3 sp rr w nw)) 5 rfl ?_
          refine mm_T.call (t := 348) (as := [(.int 99), (.int (x3 + o2085.1))]) (f' := (106, [some (.ref 42), some (.int x1), some (.int x2), some (.int x3), some (.int x4), some (.ref 3), some (.int ((fX7_rowOf (I 42 2) I) + x1)), some (.int o2085.1), none, none, none, none], [])) rfl (tJ9_min (d + 3) 99 (x3 + o2085.1) o2085.2 J 3 sp rr w nw _ rfl) (fun v h hq => ?_)
          obtain ⟨rfl, rfl⟩ := hq
          refine mm_T.seg (f' := (116, [some (.ref 42), some (.int x1), some (.int x2), some (.int x3), some (.int x4), some (.ref 3), some (.int ((fX7_rowOf (I 42 2) I) + x1)), some (.int o2085.1), some (.int (fJ9_min 99 (x3 + o2085.1))), none, none, none], [(.int (o2085.2 42 2)), (.ref 3), (.int (fJ9_min 99 (x3 + o2085.1)))])) (h' := (107, o2085.2, J, mm_rf 3 sp rr w nw)) 5 rfl ?_
          refine mm_T.call (t := 79) (as := [(.ref 3), (.int (o2085.2 42 2))]) (f' := (119, [some (.ref 42), some (.int x1), some (.int x2), some (.int x3), some (.int x4), some (.ref 3), some (.int ((fX7_rowOf (I 42 2) I) + x1)), some (.int o2085.1), some (.int (fJ9_min 99 (x3 + o2085.1))), none, none, none], [(.int (fJ9_min 99 (x3 + o2085.1)))])) rfl (tX5_bearsOf (d + 2) (o2085.2 42 2) 3 o2085.2 J 3 sp rr w nw (Or.inl rfl) _ rfl) (fun v h hq => ?_)
          obtain ⟨rfl, rfl⟩ := hq
          refine mm_T.br (c := (fX5_bearsOf (o2085.2 42 2) 3 o2085.2) < (fJ9_min 99 (x3 + o2085.1))) (a := ((122, [some (.ref 42), some (.int x1), some (.int x2), some (.int x3), some (.int x4), some (.ref 3), some (.int ((fX7_rowOf (I 42 2) I) + x1)), some (.int o2085.1), some (.int (fJ9_min 99 (x3 + o2085.1))), none, none, none], []), (107, o2085.2, J, mm_rf 3 sp rr w nw))) (b := ((126, [some (.ref 42), some (.int x1), some (.int x2), some (.int x3), some (.int x4), some (.ref 3), some (.int ((fX7_rowOf (I 42 2) I) + x1)), some (.int o2085.1), some (.int (fJ9_min 99 (x3 + o2085.1))), none, none, none], []), (107, o2085.2, J, mm_rf 3 sp rr w nw))) rfl (fun h2086 => ?_) (fun h2086 => ?_)
          · rw [if_pos h2086] at e
            refine mm_T.seg (f' := (132, [some (.ref 42), some (.int x1), some (.int x2), some (.int x3), some (.int x4), some (.ref 3), some (.int ((fX7_rowOf (I 42 2) I) + x1)), some (.int o2085.1), some (.int (fJ9_min 99 (x3 + o2085.1))), some (.int 1), some (.int (-1)), none], [])) (h' := (107, o2085.2, J, mm_rf 3 sp rr w nw)) 5 rfl ?_
            refine mm_T.mask [true, true, true, false, true, true, true, false, true, true, true, false] ?_
            obtain ⟨o2087, eo2087, e⟩ := mm_bind e
            refine tlX8_goOn_L132 d _ rec hrec n x1 x2 x4 ((fX7_rowOf (I 42 2) I) + x1) (fJ9_min 99 (x3 + o2085.1)) 1 (-1) o2085.2 J 3 sp rr w nw (Or.inl rfl) o2087 eo2087 ?_
            cases e
            exact mm_T.ret rfl ⟨rfl, rfl⟩
          · rw [if_neg h2086] at e
            refine mm_T.seg (f' := (132, [some (.ref 42), some (.int x1), some (.int x2), some (.int x3), some (.int x4), some (.ref 3), some (.int ((fX7_rowOf (I 42 2) I) + x1)), some (.int o2085.1), some (.int (fJ9_min 99 (x3 + o2085.1))), some (.int 0), some (.int (-1)), none], [])) (h' := (107, o2085.2, J, mm_rf 3 sp rr w nw)) 4 rfl ?_
            refine mm_T.mask [true, true, true, false, true, true, true, false, true, true, true, false] ?_
            obtain ⟨o2088, eo2088, e⟩ := mm_bind e
            refine tlX8_goOn_L132 d _ rec hrec n x1 x2 x4 ((fX7_rowOf (I 42 2) I) + x1) (fJ9_min 99 (x3 + o2085.1)) 0 (-1) o2085.2 J 3 sp rr w nw (Or.inl rfl) o2088 eo2088 ?_
            cases e
            exact mm_T.ret rfl ⟨rfl, rfl⟩
        · rw [if_neg h2084] at e
          refine mm_T.seg (f' := (37, [some (.ref 42), some (.int x1), some (.int x2), some (.int x3), some (.int x4), none, none, none, none, none, none, none], [(.int x4), (.int x3), (.int x2), (.ref 42)])) (h' := (107, I, J, mm_rf 3 sp rr w nw)) 4 rfl ?_
          obtain ⟨o2089, eo2089, e⟩ := mm_bind e
          refine mm_T.call (t := 128) (as := [(.ref 42), (.int x2), (.int x3), (.int x4)]) (f' := (40, [some (.ref 42), some (.int x1), some (.int x2), some (.int x3), some (.int x4), none, none, none, none, none, none, none], [])) rfl (tX8_noteIfCooler (d + 2) n x2 x3 x4 I J 3 sp rr w nw o2089 eo2089) (fun v h hq => ?_)
          obtain ⟨rfl, rfl⟩ := hq
          cases e
          exact mm_T.ret rfl ⟨rfl, rfl⟩
  · unfold fX8_goOn_B at e
    refine mm_T.seg (f' := (4, [some (.ref 42), some (.int x1), some (.int x2), some (.int x3), some (.int x4), none, none, none, none, none, none, none], [(.int (I 42 4))])) (h' := (107, I, J, mm_rf 19 sp rr w nw)) 2 rfl ?_
    refine mm_T.br (c := (I 42 4) = 0) (a := ((17, [some (.ref 42), some (.int x1), some (.int x2), some (.int x3), some (.int x4), none, none, none, none, none, none, none], []), (107, I, J, mm_rf 19 sp rr w nw))) (b := ((7, [some (.ref 42), some (.int x1), some (.int x2), some (.int x3), some (.int x4), none, none, none, none, none, none, none], []), (107, I, J, mm_rf 19 sp rr w nw))) rfl (fun h2059 => ?_) (fun h2059 => ?_)
    · rw [if_pos h2059] at e
      refine mm_T.seg (f' := (26, [some (.ref 42), some (.int x1), some (.int x2), some (.int x3), some (.int x4), none, none, none, none, none, none, none], [(.int (I 42 2)), (.ref 18), (.int x1)])) (h' := (107, I, J, mm_rf 19 sp rr w nw)) 5 rfl ?_
      refine mm_T.call (t := 111) (as := [(.ref 18), (.int (I 42 2))]) (f' := (29, [some (.ref 42), some (.int x1), some (.int x2), some (.int x3), some (.int x4), none, none, none, none, none, none, none], [(.int x1)])) rfl (tX7_strokesLeft (d + 0) (I 42 2) I J 19 sp rr w nw (Or.inr rfl) _ rfl) (fun v h hq => ?_)
      obtain ⟨rfl, rfl⟩ := hq
      refine mm_T.br (c := x1 < (fX7_strokesLeft (I 42 2) I 19)) (a := ((41, [some (.ref 42), some (.int x1), some (.int x2), some (.int x3), some (.int x4), none, none, none, none, none, none, none], []), (107, I, J, mm_rf 19 sp rr w nw))) (b := ((32, [some (.ref 42), some (.int x1), some (.int x2), some (.int x3), some (.int x4), none, none, none, none, none, none, none], []), (107, I, J, mm_rf 19 sp rr w nw))) rfl (fun h2060 => ?_) (fun h2060 => ?_)
      · rw [if_pos h2060] at e
        refine mm_T.seg (f' := (58, [some (.ref 42), some (.int x1), some (.int x2), some (.int x3), some (.int x4), some (.ref 19), none, none, none, none, none, none], [(.int (I 42 2)), (.ref 18)])) (h' := (107, I, J, mm_rf 19 sp rr w nw)) 8 rfl ?_
        refine mm_T.call (t := 106) (as := [(.ref 18), (.int (I 42 2))]) (f' := (61, [some (.ref 42), some (.int x1), some (.int x2), some (.int x3), some (.int x4), some (.ref 19), none, none, none, none, none, none], [])) rfl (tX7_rowOf (d + 1) (I 42 2) I J 19 sp rr w nw _ rfl) (fun v h hq => ?_)
        obtain ⟨rfl, rfl⟩ := hq
        refine mm_T.seg (f' := (86, [some (.ref 42), some (.int x1), some (.int x2), some (.int x3), some (.int x4), some (.ref 19), some (.int ((fX7_rowOf (I 42 2) I) + x1)), none, none, none, none, none], [(.int (I 42 2)), (.ref 18), (.int (I 42 3)), (.int x2), (.int ((fX7_rowOf (I 42 2) I) + x1)), (.int (I 42 2)), (.ref 19)])) (h' := (107, I, J, mm_rf 19 sp rr w nw)) 14 rfl ?_
        refine mm_T.call (t := 110) (as := [(.ref 18), (.int (I 42 2))]) (f' := (89, [some (.ref 42), some (.int x1), some (.int x2), some (.int x3), some (.int x4), some (.ref 19), some (.int ((fX7_rowOf (I 42 2) I) + x1)), none, none, none, none, none], [(.int (I 42 3)), (.int x2), (.int ((fX7_rowOf (I 42 2) I) + x1)), (.int (I 42 2)), (.ref 19)])) rfl (tX7_strokesOf (d + 1) (I 42 2) I J 19 sp rr w nw _ rfl) (fun v h hq => ?_)
        obtain ⟨rfl, rfl⟩ := hq
        refine mm_T.seg (f' := (92, [some (.ref 42), some (.int x1), some (.int x2), some (.int x3), some (.int x4), some (.ref 19), some (.int ((fX7_rowOf (I 42 2) I) + x1)), none, none, none, none, none], [(.int x3), (.int ((fX7_strokesOf (I 42 2) I) + x1)), (.int (I 42 3)), (.int x2), (.int ((fX7_rowOf (I 42 2) I) + x1)), (.int (I 42 2)), (.ref 19)])) (h' := (107, I, J, mm_rf 19 sp rr w nw)) 3 rfl ?_
        obtain ⟨o2061, eo2061, e⟩ := mm_bind e
        refine mm_T.call (t := 82) (as := [(.ref 19), (.int (I 42 2)), (.int ((fX7_rowOf (I 42 2) I) + x1)), (.int x2), (.int (I 42 3)), (.int ((fX7_strokesOf (I 42 2) I) + x1)), (.int x3)]) (f' := (95, [some (.ref 42), some (.int x1), some (.int x2), some (.int x3), some (.int x4), some (.ref 19), some (.int ((fX7_rowOf (I 42 2) I) + x1)), none, none, none, none, none], [])) rfl (tX5_warmth (d + 1) n (I 42 2) ((fX7_rowOf (I 42 2) I) + x1) x2 (I 42 3) ((fX7_strokesOf (I 42 2) I) + x1) x3 19 I J 19 sp rr w nw (Or.inr rfl) o2061 eo2061) (fun v h hq => ?_)
        obtain ⟨rfl, rfl⟩ := hq
        refine mm_T.seg (f' := (103, [some (.ref 42), some (.int x1), some (.int x2), some (.int x3), some (.int x4), some (.ref 19), some (.int ((fX7_rowOf (I 42 2) I) + x1)), some (.int o2061.1), none, none, none, none], [(.int (x3 + o2061.1)), (.int 99)])) (h' := (107, o2061.2, J, mm_rf 19 sp rr w nw)) 5 rfl ?_
        refine mm_T.call (t := 348) (as := [(.int 99), (.int (x3 + o2061.1))]) (f' := (106, [some (.ref 42), some (.int x1), some (.int x2), some (.int x3), some (.int x4), some (.ref 19), some (.int ((fX7_rowOf (I 42 2) I) + x1)), some (.int o2061.1), none, none, none, none], [])) rfl (tJ9_min (d + 3) 99 (x3 + o2061.1) o2061.2 J 19 sp rr w nw _ rfl) (fun v h hq => ?_)
        obtain ⟨rfl, rfl⟩ := hq
        refine mm_T.seg (f' := (116, [some (.ref 42), some (.int x1), some (.int x2), some (.int x3), some (.int x4), some (.ref 19), some (.int ((fX7_rowOf (I 42 2) I) + x1)), some (.int o2061.1), some (.int (fJ9_min 99 (x3 + o2061.1))), none, none, none], [(.int (o2061.2 42 2)), (.ref 19), (.int (fJ9_min 99 (x3 + o2061.1)))])) (h' := (107, o2061.2, J, mm_rf 19 sp rr w nw)) 5 rfl ?_
        refine mm_T.call (t := 79) (as := [(.ref 19), (.int (o2061.2 42 2))]) (f' := (119, [some (.ref 42), some (.int x1), some (.int x2), some (.int x3), some (.int x4), some (.ref 19), some (.int ((fX7_rowOf (I 42 2) I) + x1)), some (.int o2061.1), some (.int (fJ9_min 99 (x3 + o2061.1))), none, none, none], [(.int (fJ9_min 99 (x3 + o2061.1)))])) rfl (tX5_bearsOf (d + 2) (o2061.2 42 2) 19 o2061.2 J 19 sp rr w nw (Or.inr rfl) _ rfl) (fun v h hq => ?_)
        obtain ⟨rfl, rfl⟩ := hq
        refine mm_T.br (c := (fX5_bearsOf (o2061.2 42 2) 19 o2061.2) < (fJ9_min 99 (x3 + o2061.1))) (a := ((122, [some (.ref 42), some (.int x1), some (.int x2), some (.int x3), some (.int x4), some (.ref 19), some (.int ((fX7_rowOf (I 42 2) I) + x1)), some (.int o2061.1), some (.int (fJ9_min 99 (x3 + o2061.1))), none, none, none], []), (107, o2061.2, J, mm_rf 19 sp rr w nw))) (b := ((126, [some (.ref 42), some (.int x1), some (.int x2), some (.int x3), some (.int x4), some (.ref 19), some (.int ((fX7_rowOf (I 42 2) I) + x1)), some (.int o2061.1), some (.int (fJ9_min 99 (x3 + o2061.1))), none, none, none], []), (107, o2061.2, J, mm_rf 19 sp rr w nw))) rfl (fun h2062 => ?_) (fun h2062 => ?_)
        · rw [if_pos h2062] at e
          refine mm_T.seg (f' := (132, [some (.ref 42), some (.int x1), some (.int x2), some (.int x3), some (.int x4), some (.ref 19), some (.int ((fX7_rowOf (I 42 2) I) + x1)), some (.int o2061.1), some (.int (fJ9_min 99 (x3 + o2061.1))), some (.int 1), some (.int (-1)), none], [])) (h' := (107, o2061.2, J, mm_rf 19 sp rr w nw)) 5 rfl ?_
          refine mm_T.mask [true, true, true, false, true, true, true, false, true, true, true, false] ?_
          obtain ⟨o2072, eo2072, e⟩ := mm_bind e
          refine tlX8_goOn_L132 d _ rec hrec n x1 x2 x4 ((fX7_rowOf (I 42 2) I) + x1) (fJ9_min 99 (x3 + o2061.1)) 1 (-1) o2061.2 J 19 sp rr w nw (Or.inr rfl) o2072 eo2072 ?_
          cases e
          exact mm_T.ret rfl ⟨rfl, rfl⟩
        · rw [if_neg h2062] at e
          refine mm_T.seg (f' := (132, [some (.ref 42), some (.int x1), some (.int x2), some (.int x3), some (.int x4), some (.ref 19), some (.int ((fX7_rowOf (I 42 2) I) + x1)), some (.int o2061.1), some (.int (fJ9_min 99 (x3 + o2061.1))), some (.int 0), some (.int (-1)), none], [])) (h' := (107, o2061.2, J, mm_rf 19 sp rr w nw)) 4 rfl ?_
          refine mm_T.mask [true, true, true, false, true, true, true, false, true, true, true, false] ?_
          obtain ⟨o2073, eo2073, e⟩ := mm_bind e
          refine tlX8_goOn_L132 d _ rec hrec n x1 x2 x4 ((fX7_rowOf (I 42 2) I) + x1) (fJ9_min 99 (x3 + o2061.1)) 0 (-1) o2061.2 J 19 sp rr w nw (Or.inr rfl) o2073 eo2073 ?_
          cases e
          exact mm_T.ret rfl ⟨rfl, rfl⟩
      · rw [if_neg h2060] at e
        refine mm_T.seg (f' := (37, [some (.ref 42), some (.int x1), some (.int x2), some (.int x3), some (.int x4), none, none, none, none, none, none, none], [(.int x4), (.int x3), (.int x2), (.ref 42)])) (h' := (107, I, J, mm_rf 19 sp rr w nw)) 4 rfl ?_
        obtain ⟨o2082, eo2082, e⟩ := mm_bind e
        refine mm_T.call (t := 128) (as := [(.ref 42), (.int x2), (.int x3), (.int x4)]) (f' := (40, [some (.ref 42), some (.int x1), some (.int x2), some (.int x3), some (.int x4), none, none, none, none, none, none, none], [])) rfl (tX8_noteIfCooler (d + 2) n x2 x3 x4 I J 19 sp rr w nw o2082 eo2082) (fun v h hq => ?_)
        obtain ⟨rfl, rfl⟩ := hq
        cases e
        exact mm_T.ret rfl ⟨rfl, rfl⟩
    · rw [if_neg h2059] at e
      refine mm_T.seg (f' := (13, [some (.ref 42), some (.int x1), some (.int x2), some (.int x3), some (.int x4), none, none, none, none, none, none, none], [(.int (I 42 6)), (.int x4)])) (h' := (107, I, J, mm_rf 19 sp rr w nw)) 3 rfl ?_
      refine mm_T.br (c := (I 42 6) < x4) (a := ((16, [some (.ref 42), some (.int x1), some (.int x2), some (.int x3), some (.int x4), none, none, none, none, none, none, none], []), (107, I, J, mm_rf 19 sp rr w nw))) (b := ((17, [some (.ref 42), some (.int x1), some (.int x2), some (.int x3), some (.int x4), none, none, none, none, none, none, none], []), (107, I, J, mm_rf 19 sp rr w nw))) rfl (fun h2083 => ?_) (fun h2083 => ?_)
      · rw [if_pos h2083] at e
        cases e
        exact mm_T.ret rfl ⟨rfl, rfl⟩
      · rw [if_neg h2083] at e
        refine mm_T.seg (f' := (26, [some (.ref 42), some (.int x1), some (.int x2), some (.int x3), some (.int x4), none, none, none, none, none, none, none], [(.int (I 42 2)), (.ref 18), (.int x1)])) (h' := (107, I, J, mm_rf 19 sp rr w nw)) 5 rfl ?_
        refine mm_T.call (t := 111) (as := [(.ref 18), (.int (I 42 2))]) (f' := (29, [some (.ref 42), some (.int x1), some (.int x2), some (.int x3), some (.int x4), none, none, none, none, none, none, none], [(.int x1)])) rfl (tX7_strokesLeft (d + 0) (I 42 2) I J 19 sp rr w nw (Or.inr rfl) _ rfl) (fun v h hq => ?_)
        obtain ⟨rfl, rfl⟩ := hq
        refine mm_T.br (c := x1 < (fX7_strokesLeft (I 42 2) I 19)) (a := ((41, [some (.ref 42), some (.int x1), some (.int x2), some (.int x3), some (.int x4), none, none, none, none, none, none, none], []), (107, I, J, mm_rf 19 sp rr w nw))) (b := ((32, [some (.ref 42), some (.int x1), some (.int x2), some (.int x3), some (.int x4), none, none, none, none, none, none, none], []), (107, I, J, mm_rf 19 sp rr w nw))) rfl (fun h2084 => ?_) (fun h2084 => ?_)
        · rw [if_pos h2084] at e
          refine mm_T.seg (f' := (58, [some (.ref 42), some (.int x1), some (.int x2), some (.int x3), some (.int x4), some (.ref 19), none, none, none, none, none, none], [(.int (I 42 2)), (.ref 18)])) (h' := (107, I, J, mm_rf 19 sp rr w nw)) 8 rfl ?_
          refine mm_T.call (t := 106) (as := [(.ref 18), (.int (I 42 2))]) (f' := (61, [some (.ref 42), some (.int x1), some (.int x2), some (.int x3), some (.int x4), some (.ref 19), none, none, none, none, none, none], [])) rfl (tX7_rowOf (d + 1) (I 42 2) I J 19 sp rr w nw _ rfl) (fun v h hq => ?_)
          obtain ⟨rfl, rfl⟩ := hq
          refine mm_T.seg (f' := (86, [some (.ref 42), some (.int x1), some (.int x2), some (.int x3), some (.int x4), some (.ref 19), some (.int ((fX7_rowOf (I 42 2) I) + x1)), none, none, none, none, none], [(.int (I 42 2)), (.ref 18), (.int (I 42 3)), (.int x2), (.int ((fX7_rowOf (I 42 2) I) + x1)), (.int (I 42 2)), (.ref 19)])) (h' := (107, I, J, mm_rf 19 sp rr w nw)) 14 rfl ?_
          refine mm_T.call (t := 110) (as := [(.ref 18), (.int (I 42 2))]) (f' := (89, [some (.ref 42), some (.int x1), some (.int x2), some (.int x3), some (.int x4), some (.ref 19), some (.int ((fX7_rowOf (I 42 2) I) + x1)), none, none, none, none, none], [(.int (I 42 3)), (.int x2), (.int ((fX7_rowOf (I 42 2) I) + x1)), (.int (I 42 2)), (.ref 19)])) rfl (tX7_strokesOf (d + 1) (I 42 2) I J 19 sp rr w nw _ rfl) (fun v h hq => ?_)
          obtain ⟨rfl, rfl⟩ := hq
          refine mm_T.seg (f' := (92, [some (.ref 42), some (.int x1), some (.int x2), some (.int x3), some (.int x4), some (.ref 19), some (.int ((fX7_rowOf (I 42 2) I) + x1)), none, none, none, none, none], [(.int x3), (.int ((fX7_strokesOf (I 42 2) I) + x1)), (.int (I 42 3)), (.int x2), (.int ((fX7_rowOf (I 42 2) I) + x1)), (.int (I 42 2)), (.ref 19)])) (h' := (107, I, J, mm_rf 19 sp rr w nw)) 3 rfl ?_
          obtain ⟨o2085, eo2085, e⟩ := mm_bind e
          refine mm_T.call (t := 82) (as := [(.ref 19), (.int (I 42 2)), (.int ((fX7_rowOf (I 42 2) I) + x1)), (.int x2), (.int (I 42 3)), (.int ((fX7_strokesOf (I 42 2) I) + x1)), (.int x3)]) (f' := (95, [some (.ref 42), some (.int x1), some (.int x2), some (.int x3), some (.int x4), some (.ref 19), some (.int ((fX7_rowOf (I 42 2) I) + x1)), none, none, none, none, none], [])) rfl (tX5_warmth (d + 1) n (I 42 2) ((fX7_rowOf (I 42 2) I) + x1) x2 (I 42 3) ((fX7_strokesOf (I 42 2) I) + x1) x3 19 I J 19 sp rr w nw (Or.inr rfl) o2085 eo2085) (fun v h hq => ?_)
          obtain ⟨rfl, rfl⟩ := hq
          refine mm_T.seg (f' := (103, [some (.ref 42), some (.int x1), some (.int x2), some (.int x3), some (.int x4), some (.ref 19), some (.int ((fX7_rowOf (I 42 2) I) + x1)), some (.int o2085.1), none, none, none, none], [(.int (x3 + o2085.1)), (.int 99)])) (h' := (107, o2085.2, J, mm_rf 19 sp rr w nw)) 5 rfl ?_
          refine mm_T.call (t := 348) (as := [(.int 99), (.int (x3 + o2085.1))]) (f' := (106, [some (.ref 42), some (.int x1), some (.int x2), some (.int x3), some (.int x4), some (.ref 19), some (.int ((fX7_rowOf (I 42 2) I) + x1)), some (.int o2085.1), none, none, none, none], [])) rfl (tJ9_min (d + 3) 99 (x3 + o2085.1) o2085.2 J 19 sp rr w nw _ rfl) (fun v h hq => ?_)
          obtain ⟨rfl, rfl⟩ := hq
          refine mm_T.seg (f' := (116, [some (.ref 42), some (.int x1), some (.int x2), some (.int x3), some (.int x4), some (.ref 19), some (.int ((fX7_rowOf (I 42 2) I) + x1)), some (.int o2085.1), some (.int (fJ9_min 99 (x3 + o2085.1))), none, none, none], [(.int (o2085.2 42 2)), (.ref 19), (.int (fJ9_min 99 (x3 + o2085.1)))])) (h' := (107, o2085.2, J, mm_rf 19 sp rr w nw)) 5 rfl ?_
          refine mm_T.call (t := 79) (as := [(.ref 19), (.int (o2085.2 42 2))]) (f' := (119, [some (.ref 42), some (.int x1), some (.int x2), some (.int x3), some (.int x4), some (.ref 19), some (.int ((fX7_rowOf (I 42 2) I) + x1)), some (.int o2085.1), some (.int (fJ9_min 99 (x3 + o2085.1))), none, none, none], [(.int (fJ9_min 99 (x3 + o2085.1)))])) rfl (tX5_bearsOf (d + 2) (o2085.2 42 2) 19 o2085.2 J 19 sp rr w nw (Or.inr rfl) _ rfl) (fun v h hq => ?_)
          obtain ⟨rfl, rfl⟩ := hq
          refine mm_T.br (c := (fX5_bearsOf (o2085.2 42 2) 19 o2085.2) < (fJ9_min 99 (x3 + o2085.1))) (a := ((122, [some (.ref 42), some (.int x1), some (.int x2), some (.int x3), some (.int x4), some (.ref 19), some (.int ((fX7_rowOf (I 42 2) I) + x1)), some (.int o2085.1), some (.int (fJ9_min 99 (x3 + o2085.1))), none, none, none], []), (107, o2085.2, J, mm_rf 19 sp rr w nw))) (b := ((126, [some (.ref 42), some (.int x1), some (.int x2), some (.int x3), some (.int x4), some (.ref 19), some (.int ((fX7_rowOf (I 42 2) I) + x1)), some (.int o2085.1), some (.int (fJ9_min 99 (x3 + o2085.1))), none, none, none], []), (107, o2085.2, J, mm_rf 19 sp rr w nw))) rfl (fun h2086 => ?_) (fun h2086 => ?_)
          · rw [if_pos h2086] at e
            refine mm_T.seg (f' := (132, [some (.ref 42), some (.int x1), some (.int x2), some (.int x3), some (.int x4), some (.ref 19), some (.int ((fX7_rowOf (I 42 2) I) + x1)), some (.int o2085.1), some (.int (fJ9_min 99 (x3 + o2085.1))), some (.int 1), some (.int (-1)), none], [])) (h' := (107, o2085.2, J, mm_rf 19 sp rr w nw)) 5 rfl ?_
            refine mm_T.mask [true, true, true, false, true, true, true, false, true, true, true, false] ?_
            obtain ⟨o2087, eo2087, e⟩ := mm_bind e
            refine tlX8_goOn_L132 d _ rec hrec n x1 x2 x4 ((fX7_rowOf (I 42 2) I) + x1) (fJ9_min 99 (x3 + o2085.1)) 1 (-1) o2085.2 J 19 sp rr w nw (Or.inr rfl) o2087 eo2087 ?_
            cases e
            exact mm_T.ret rfl ⟨rfl, rfl⟩
          · rw [if_neg h2086] at e
            refine mm_T.seg (f' := (132, [some (.ref 42), some (.int x1), some (.int x2), some (.int x3), some (.int x4), some (.ref 19), some (.int ((fX7_rowOf (I 42 2) I) + x1)), some (.int o2085.1), some (.int (fJ9_min 99 (x3 + o2085.1))), some (.int 0), some (.int (-1)), none], [])) (h' := (107, o2085.2, J, mm_rf 19 sp rr w nw)) 4 rfl ?_
            refine mm_T.mask [true, true, true, false, true, true, true, false, true, true, true, false] ?_
            obtain ⟨o2088, eo2088, e⟩ := mm_bind e
            refine tlX8_goOn_L132 d _ rec hrec n x1 x2 x4 ((fX7_rowOf (I 42 2) I) + x1) (fJ9_min 99 (x3 + o2085.1)) 0 (-1) o2085.2 J 19 sp rr w nw (Or.inr rfl) o2088 eo2088 ?_
            cases e
            exact mm_T.ret rfl ⟨rfl, rfl⟩
        · rw [if_neg h2084] at e
          refine mm_T.seg (f' := (37, [some (.ref 42), some (.int x1), some (.int x2), some (.int x3), some (.int x4), none, none, none, none, none, none, none], [(.int x4), (.int x3), (.int x2), (.ref 42)])) (h' := (107, I, J, mm_rf 19 sp rr w nw)) 4 rfl ?_
          obtain ⟨o2089, eo2089, e⟩ := mm_bind e
          refine mm_T.call (t := 128) (as := [(.ref 42), (.int x2), (.int x3), (.int x4)]) (f' := (40, [some (.ref 42), some (.int x1), some (.int x2), some (.int x3), some (.int x4), none, none, none, none, none, none, none], [])) rfl (tX8_noteIfCooler (d + 2) n x2 x3 x4 I J 19 sp rr w nw o2089 eo2089) (fun v h hq => ?_)
          obtain ⟨rfl, rfl⟩ := hq
          cases e
          exact mm_T.ret rfl ⟨rfl, rfl⟩
theorem tX8_goOn (d n : Nat) : ∀ (q : Nat) (x1 : Int32) (x2 : Int32) (x3 : Int32) (x4 : Int32) (I : Nat → Nat → Int32) (J : Nat → Nat → Int64) (rv sp rr w nw : Nat), (rv = 3 ∨ rv = 19) → ∀ (out : (Nat → Nat → Int32)), fX8_goOn n q x1 x2 x3 x4 I rv = some out → mm_T none (d + 4 * q) 127 (mm_ent 127 [(.ref 42), (.int x1), (.int x2), (.int x3), (.int x4)]) (107, I, J, mm_rf rv sp rr w nw) (fun v h => v = none ∧ h = (107, out, J, mm_rf rv sp rr w nw)) := by
  intro q
  induction q with
  | zero =>
    intro x1 x2 x3 x4 I J rv sp rr w nw hrv out e
    rw [fX8_goOn] at e; cases e
  | succ q ih =>
    intro x1 x2 x3 x4 I J rv sp rr w nw hrv out e
    rw [fX8_goOn] at e
    exact tX8_goOn_B (d + 4 * q) n (fX8_goOn n q) ih x1 x2 x3 x4 I J rv sp rr w nw hrv out e
set_option maxRecDepth 100000 in
set_option maxHeartbeats 4000000 in
theorem tX8_findCoolest (d n : Nat) (x1 : Int32) (I : Nat → Nat → Int32) (J : Nat → Nat → Int64) (rv sp rr w nw : Nat) (hrv : rv = 3 ∨ rv = 19) (out : Int32 × (Nat → Nat → Int32)) (e : fX8_findCoolest n x1 I rv = some out) : mm_T none (d + 33) 126 (mm_ent 126 [(.ref 42), (.int x1)]) (107, I, J, mm_rf rv sp rr w nw) (fun v h => v = some (.int out.1) ∧ h = (107, out.2, J, mm_rf rv sp rr w nw)) := by
  rcases hrv with rfl | rfl
  · unfold fX8_findCoolest at e
    refine mm_T.seg (f' := (11, [some (.ref 42), some (.int x1)], [(.int x1), (.ref 18), (.ref 42)])) (h' := (107, (mm_up I 42 2 x1), J, mm_rf 3 sp rr w nw)) 7 rfl ?_
    obtain ⟨o2058, eo2058, e⟩ := mm_bind e
    refine mm_T.call (t := 118) (as := [(.ref 18), (.int x1)]) (f' := (14, [some (.ref 42), some (.int x1)], [(.ref 42)])) rfl (tX7_burdenOf (d + 30) n x1 (mm_up I 42 2 x1) J 3 sp rr w nw (Or.inl rfl) o2058 eo2058) (fun v h hq => ?_)
    obtain ⟨rfl, rfl⟩ := hq
    refine mm_T.seg (f' := (29, [some (.ref 42), some (.int x1)], [(.int x1), (.ref 18), (.int 0), (.ref 42)])) (h' := (107, (mm_up (mm_up (mm_up I 42 2 x1) 42 3 o2058) 42 4 0), J, mm_rf 3 sp rr w nw)) 9 rfl ?_
    refine mm_T.call (t := 105) (as := [(.ref 18), (.int x1)]) (f' := (32, [some (.ref 42), some (.int x1)], [(.int 0), (.ref 42)])) rfl (tX7_columnOf (d + 30) x1 (mm_up (mm_up (mm_up I 42 2 x1) 42 3 o2058) 42 4 0) J 3 sp rr w nw _ rfl) (fun v h hq => ?_)
    obtain ⟨rfl, rfl⟩ := hq
    refine mm_T.seg (f' := (37, [some (.ref 42), some (.int x1)], [(.int x1), (.ref 18), (.int (fX7_columnOf x1 (mm_up (mm_up (mm_up I 42 2 x1) 42 3 o2058) 42 4 0))), (.int 0), (.ref 42)])) (h' := (107, (mm_up (mm_up (mm_up I 42 2 x1) 42 3 o2058) 42 4 0), J, mm_rf 3 sp rr w nw)) 3 rfl ?_
    refine mm_T.call (t := 107) (as := [(.ref 18), (.int x1)]) (f' := (40, [some (.ref 42), some (.int x1)], [(.int (fX7_columnOf x1 (mm_up (mm_up (mm_up I 42 2 x1) 42 3 o2058) 42 4 0))), (.int 0), (.ref 42)])) rfl (tX7_heatOf (d + 30) x1 (mm_up (mm_up (mm_up I 42 2 x1) 42 3 o2058) 42 4 0) J 3 sp rr w nw _ rfl) (fun v h hq => ?_)
    obtain ⟨rfl, rfl⟩ := hq
    refine mm_T.seg (f' := (41, [some (.ref 42), some (.int x1)], [(.int 0), (.int (fX7_heatOf x1 (mm_up (mm_up (mm_up I 42 2 x1) 42 3 o2058) 42 4 0))), (.int (fX7_columnOf x1 (mm_up (mm_up (mm_up I 42 2 x1) 42 3 o2058) 42 4 0))), (.int 0), (.ref 42)])) (h' := (107, (mm_up (mm_up (mm_up I 42 2 x1) 42 3 o2058) 42 4 0), J, mm_rf 3 sp rr w nw)) 1 rfl ?_
    obtain ⟨o2090, eo2090, e⟩ := mm_bind e
    refine mm_T.call (t := 127) (as := [(.ref 42), (.int 0), (.int (fX7_columnOf x1 (mm_up (mm_up (mm_up I 42 2 x1) 42 3 o2058) 42 4 0))), (.int (fX7_heatOf x1 (mm_up (mm_up (mm_up I 42 2 x1) 42 3 o2058) 42 4 0))), (.int 0)]) (f' := (44, [some (.ref 42), some (.int x1)], [])) rfl (mm_T.deep (tX8_goOn d n 8 0 (fX7_columnOf x1 (mm_up (mm_up (mm_up I 42 2 x1) 42 3 o2058) 42 4 0)) (fX7_heatOf x1 (mm_up (mm_up (mm_up I 42 2 x1) 42 3 o2058) 42 4 0)) 0 (mm_up (mm_up (mm_up I 42 2 x1) 42 3 o2058) 42 4 0) J 3 sp rr w nw (Or.inl rfl) o2090 eo2090) (by omega)) (fun v h hq => ?_)
    obtain ⟨rfl, rfl⟩ := hq
    refine mm_T.seg (f' := (48, [some (.ref 42), some (.int x1)], [(.int (o2090 42 4))])) (h' := (107, o2090, J, mm_rf 3 sp rr w nw)) 2 rfl ?_
    by_cases h2091 : (o2090 42 4) = 0 ∨ (o2090 42 4) = 1
    case neg => rw [if_neg h2091] at e; cases e
    rw [if_pos h2091] at e
    cases e
    first | exact mm_T.retZ (v := some (.int (o2090 42 4))) rfl h2091 ⟨rfl, rfl⟩ | exact mm_T.retZ (v := some (.int out)) rfl h2091 ⟨rfl, rfl⟩
  · unfold fX8_findCoolest at e
    refine mm_T.seg (f' := (11, [some (.ref 42), some (.int x1)], [(.int x1), (.ref 18), (.ref 42)])) (h' := (107, (mm_up I 42 2 x1), J, mm_rf 19 sp rr w nw)) 7 rfl ?_
    obtain ⟨o2058, eo2058, e⟩ := mm_bind e
    refine mm_T.call (t := 118) (as := [(.ref 18), (.int x1)]) (f' := (14, [some (.ref 42), some (.int x1)], [(.ref 42)])) rfl (tX7_burdenOf (d + 30) n x1 (mm_up I 42 2 x1) J 19 sp rr w nw (Or.inr rfl) o2058 eo2058) (fun v h hq => ?_)
    obtain ⟨rfl, rfl⟩ := hq
    refine mm_T.seg (f' := (29, [some (.ref 42), some (.int x1)], [(.int x1), (.ref 18), (.int 0), (.ref 42)])) (h' := (107, (mm_up (mm_up (mm_up I 42 2 x1) 42 3 o2058) 42 4 0), J, mm_rf 19 sp rr w nw)) 9 rfl ?_
    refine mm_T.call (t := 105) (as := [(.ref 18), (.int x1)]) (f' := (32, [some (.ref 42), some (.int x1)], [(.int 0), (.ref 42)])) rfl (tX7_columnOf (d + 30) x1 (mm_up (mm_up (mm_up I 42 2 x1) 42 3 o2058) 42 4 0) J 19 sp rr w nw _ rfl) (fun v h hq => ?_)
    obtain ⟨rfl, rfl⟩ := hq
    refine mm_T.seg (f' := (37, [some (.ref 42), some (.int x1)], [(.int x1), (.ref 18), (.int (fX7_columnOf x1 (mm_up (mm_up (mm_up I 42 2 x1) 42 3 o2058) 42 4 0))), (.int 0), (.ref 42)])) (h' := (107, (mm_up (mm_up (mm_up I 42 2 x1) 42 3 o2058) 42 4 0), J, mm_rf 19 sp rr w nw)) 3 rfl ?_
    refine mm_T.call (t := 107) (as := [(.ref 18), (.int x1)]) (f' := (40, [some (.ref 42), some (.int x1)], [(.int (fX7_columnOf x1 (mm_up (mm_up (mm_up I 42 2 x1) 42 3 o2058) 42 4 0))), (.int 0), (.ref 42)])) rfl (tX7_heatOf (d + 30) x1 (mm_up (mm_up (mm_up I 42 2 x1) 42 3 o2058) 42 4 0) J 19 sp rr w nw _ rfl) (fun v h hq => ?_)
    obtain ⟨rfl, rfl⟩ := hq
    refine mm_T.seg (f' := (41, [some (.ref 42), some (.int x1)], [(.int 0), (.int (fX7_heatOf x1 (mm_up (mm_up (mm_up I 42 2 x1) 42 3 o2058) 42 4 0))), (.int (fX7_columnOf x1 (mm_up (mm_up (mm_up I 42 2 x1) 42 3 o2058) 42 4 0))), (.int 0), (.ref 42)])) (h' := (107, (mm_up (mm_up (mm_up I 42 2 x1) 42 3 o2058) 42 4 0), J, mm_rf 19 sp rr w nw)) 1 rfl ?_
    obtain ⟨o2090, eo2090, e⟩ := mm_bind e
    refine mm_T.call (t := 127) (as := [(.ref 42), (.int 0), (.int (fX7_columnOf x1 (mm_up (mm_up (mm_up I 42 2 x1) 42 3 o2058) 42 4 0))), (.int (fX7_heatOf x1 (mm_up (mm_up (mm_up I 42 2 x1) 42 3 o2058) 42 4 0))), (.int 0)]) (f' := (44, [some (.ref 42), some (.int x1)], [])) rfl (mm_T.deep (tX8_goOn d n 8 0 (fX7_columnOf x1 (mm_up (mm_up (mm_up I 42 2 x1) 42 3 o2058) 42 4 0)) (fX7_heatOf x1 (mm_up (mm_up (mm_up I 42 2 x1) 42 3 o2058) 42 4 0)) 0 (mm_up (mm_up (mm_up I 42 2 x1) 42 3 o2058) 42 4 0) J 19 sp rr w nw (Or.inr rfl) o2090 eo2090) (by omega)) (fun v h hq => ?_)
    obtain ⟨rfl, rfl⟩ := hq
    refine mm_T.seg (f' := (48, [some (.ref 42), some (.int x1)], [(.int (o2090 42 4))])) (h' := (107, o2090, J, mm_rf 19 sp rr w nw)) 2 rfl ?_
    by_cases h2091 : (o2090 42 4) = 0 ∨ (o2090 42 4) = 1
    case neg => rw [if_neg h2091] at e; cases e
    rw [if_pos h2091] at e
    cases e
    first | exact mm_T.retZ (v := some (.int (o2090 42 4))) rfl h2091 ⟨rfl, rfl⟩ | exact mm_T.retZ (v := some (.int out)) rfl h2091 ⟨rfl, rfl⟩
set_option maxRecDepth 100000 in
set_option maxHeartbeats 4000000 in
theorem tlX8_strokesToScorch_L50 (d : Nat) (Q : Option Value → mm_H → Prop) : ∀ (n : Nat) (y1 : Int32) (y3 : Int32) (y4 : Int32) (y5 : Int32) (y6 : Int32) (y7 : Int32) (I : Nat → Nat → Int32) (J : Nat → Nat → Int64) (rv sp rr w nw : Nat), (rv = 3 ∨ rv = 19) → ∀ (out : (Int32 ⊕ (Unit)) × (Nat → Nat → Int32)), fX8_strokesToScorch_L50 n y1 y3 y4 y5 y6 y7 I rv = some out → (∀ (r : Int32) (s0 : Nat → Nat → Int32), out = (.inl r, s0) → Q (some (.int r)) (107, s0, J, mm_rf rv sp rr w nw)) → (∀ (y : Unit) (s0 : Nat → Nat → Int32), out = (.inr y, s0) → mm_T none (d + 3) 129 (160, [none, none, none, none, none, none, none, none, none], []) (107, s0, J, mm_rf rv sp rr w nw) Q) → mm_T none (d + 3) 129 (50, [some (.ref 42), some (.int y1), some (.ref rv), some (.int y3), some (.int y4), some (.int y5), some (.int y6), some (.int y7), none], []) (107, I, J, mm_rf rv sp rr w nw) Q := by
  intro n
  induction n with
  | zero =>
    intro y1 y3 y4 y5 y6 y7 I J rv sp rr w nw hrv out e kr ke
    rw [fX8_strokesToScorch_L50] at e; cases e
  | succ n ih =>
    intro y1 y3 y4 y5 y6 y7 I J rv sp rr w nw hrv out e kr ke
    rcases hrv with rfl | rfl
    · rw [fX8_strokesToScorch_L50] at e
      refine mm_T.seg (f' := (59, [some (.ref 42), some (.int y1), some (.ref 3), some (.int y3), some (.int y4), some (.int y5), some (.int y6), some (.int y7), none], [(.int (I 3 1)), (.int (y5 + y7))])) (h' := (107, I, J, mm_rf 3 sp rr w nw)) 5 rfl ?_
      refine mm_T.br (c := (y5 + y7) < (I 3 1)) (a := ((62, [some (.ref 42), some (.int y1), some (.ref 3), some (.int y3), some (.int y4), some (.int y5), some (.int y6), some (.int y7), none], []), (107, I, J, mm_rf 3 sp rr w nw))) (b := ((160, [some (.ref 42), some (.int y1), some (.ref 3), some (.int y3), some (.int y4), some (.int y5), some (.int y6), some (.int y7), none], []), (107, I, J, mm_rf 3 sp rr w nw))) rfl (fun h2093 => ?_) (fun h2093 => ?_)
      · rw [if_pos h2093] at e
        refine mm_T.seg (f' := (72, [some (.ref 42), some (.int y1), some (.ref 3), some (.int y3), some (.int y4), some (.int y5), some (.int y6), some (.int y7), none], [(.int 1), (.int 0), (.int (y5 + y7)), (.int y4), (.ref 3)])) (h' := (107, I, J, mm_rf 3 sp rr w nw)) 7 rfl ?_
        refine mm_T.call (t := 81) (as := [(.ref 3), (.int y4), (.int (y5 + y7)), (.int 0), (.int 1)]) (f' := (75, [some (.ref 42), some (.int y1), some (.ref 3), some (.int y3), some (.int y4), some (.int y5), some (.int y6), some (.int y7), none], [])) rfl (tX5_leadsTo (d + 1) y4 (y5 + y7) 0 1 3 I J 3 sp rr w nw (Or.inl rfl) _ rfl) (fun v h hq => ?_)
        obtain ⟨rfl, rfl⟩ := hq
        refine mm_T.seg (f' := (87, [some (.ref 42), some (.int y1), some (.ref 3), some (.int y3), some (.int y4), some (.int y5), some (.int y6), some (.int y7), some (.int (fX5_leadsTo y4 (y5 + y7) 0 1 3 I))], [(.int ((y5 + y7) + 1)), (.int (fX5_leadsTo y4 (y5 + y7) 0 1 3 I)), (.ref 3)])) (h' := (107, I, J, mm_rf 3 sp rr w nw)) 8 rfl ?_
        refine mm_T.call (t := 69) (as := [(.ref 3), (.int (fX5_leadsTo y4 (y5 + y7) 0 1 3 I)), (.int ((y5 + y7) + 1))]) (f' := (90, [some (.ref 42), some (.int y1), some (.ref 3), some (.int y3), some (.int y4), some (.int y5), some (.int y6), some (.int y7), some (.int (fX5_leadsTo y4 (y5 + y7) 0 1 3 I))], [])) rfl (tX5_ironAt (d + 1) (fX5_leadsTo y4 (y5 + y7) 0 1 3 I) ((y5 + y7) + 1) 3 I J 3 sp rr w nw (Or.inl rfl) _ rfl) (fun v h hq => ?_)
        obtain ⟨rfl, rfl⟩ := hq
        refine mm_T.br (c := (fX5_ironAt (fX5_leadsTo y4 (y5 + y7) 0 1 3 I) ((y5 + y7) + 1) 3 I) = 0) (a := ((95, [some (.ref 42), some (.int y1), some (.ref 3), some (.int y3), some (.int y4), some (.int y5), some (.int y6), some (.int y7), some (.int (fX5_leadsTo y4 (y5 + y7) 0 1 3 I))], []), (107, I, J, mm_rf 3 sp rr w nw))) (b := ((93, [some (.ref 42), some (.int y1), some (.ref 3), some (.int y3), some (.int y4), some (.int y5), some (.int y6), some (.int y7), some (.int (fX5_leadsTo y4 (y5 + y7) 0 1 3 I))], []), (107, I, J, mm_rf 3 sp rr w nw))) rfl (fun h2094 => ?_) (fun h2094 => ?_)
        · rw [if_pos h2094] at e
          refine mm_T.seg (f' := (112, [some (.ref 42), some (.int y1), some (.ref 3), some (.int y3), some (.int y4), some (.int y5), some (.int y6), some (.int y7), some (.int (fX5_leadsTo y4 (y5 + y7) 0 1 3 I))], [(.int y1), (.ref 18), (.int y3), (.int y4), (.int (y5 + y7)), (.int y1), (.ref 3), (.int y6)])) (h' := (107, I, J, mm_rf 3 sp rr w nw)) 11 rfl ?_
          refine mm_T.call (t := 110) (as := [(.ref 18), (.int y1)]) (f' := (115, [some (.ref 42), some (.int y1), some (.ref 3), some (.int y3), some (.int y4), some (.int y5), some (.int y6), some (.int y7), some (.int (fX5_leadsTo y4 (y5 + y7) 0 1 3 I))], [(.int y3), (.int y4), (.int (y5 + y7)), (.int y1), (.ref 3), (.int y6)])) rfl (tX7_strokesOf (d + 0) y1 I J 3 sp rr w nw _ rfl) (fun v h hq => ?_)
          obtain ⟨rfl, rfl⟩ := hq
          refine mm_T.seg (f' := (120, [some (.ref 42), some (.int y1), some (.ref 3), some (.int y3), some (.int y4), some (.int y5), some (.int y6), some (.int y7), some (.int (fX5_leadsTo y4 (y5 + y7) 0 1 3 I))], [(.int y6), (.int ((fX7_strokesOf y1 I) + y7)), (.int y3), (.int y4), (.int (y5 + y7)), (.int y1), (.ref 3), (.int y6)])) (h' := (107, I, J, mm_rf 3 sp rr w nw)) 3 rfl ?_
          obtain ⟨o2095, eo2095, e⟩ := mm_bind e
          refine mm_T.call (t := 82) (as := [(.ref 3), (.int y1), (.int (y5 + y7)), (.int y4), (.int y3), (.int ((fX7_strokesOf y1 I) + y7)), (.int y6)]) (f' := (123, [some (.ref 42), some (.int y1), some (.ref 3), some (.int y3), some (.int y4), some (.int y5), some (.int y6), some (.int y7), some (.int (fX5_leadsTo y4 (y5 + y7) 0 1 3 I))], [(.int y6)])) rfl (tX5_warmth (d + 0) n y1 (y5 + y7) y4 y3 ((fX7_strokesOf y1 I) + y7) y6 3 I J 3 sp rr w nw (Or.inl rfl) o2095 eo2095) (fun v h hq => ?_)
          obtain ⟨rfl, rfl⟩ := hq
          refine mm_T.seg (f' := (130, [some (.ref 42), some (.int y1), some (.ref 3), some (.int y3), some (.int y4), some (.int y5), some (.int (y6 + o2095.1)), some (.int y7), some (.int (fX5_leadsTo y4 (y5 + y7) 0 1 3 I))], [(.int (y6 + o2095.1)), (.int 99)])) (h' := (107, o2095.2, J, mm_rf 3 sp rr w nw)) 4 rfl ?_
          refine mm_T.call (t := 348) (as := [(.int 99), (.int (y6 + o2095.1))]) (f' := (133, [some (.ref 42), some (.int y1), some (.ref 3), some (.int y3), some (.int y4), some (.int y5), some (.int (y6 + o2095.1)), some (.int y7), some (.int (fX5_leadsTo y4 (y5 + y7) 0 1 3 I))], [])) rfl (tJ9_min (d + 2) 99 (y6 + o2095.1) o2095.2 J 3 sp rr w nw _ rfl) (fun v h hq => ?_)
          obtain ⟨rfl, rfl⟩ := hq
          refine mm_T.seg (f' := (139, [some (.ref 42), some (.int y1), some (.ref 3), some (.int y3), some (.int y4), some (.int y5), some (.int (fJ9_min 99 (y6 + o2095.1))), some (.int y7), some (.int (fX5_leadsTo y4 (y5 + y7) 0 1 3 I))], [(.int y1), (.ref 3), (.int (fJ9_min 99 (y6 + o2095.1)))])) (h' := (107, o2095.2, J, mm_rf 3 sp rr w nw)) 4 rfl ?_
          refine mm_T.call (t := 79) (as := [(.ref 3), (.int y1)]) (f' := (142, [some (.ref 42), some (.int y1), some (.ref 3), some (.int y3), some (.int y4), some (.int y5), some (.int (fJ9_min 99 (y6 + o2095.1))), some (.int y7), some (.int (fX5_leadsTo y4 (y5 + y7) 0 1 3 I))], [(.int (fJ9_min 99 (y6 + o2095.1)))])) rfl (tX5_bearsOf (d + 1) y1 3 o2095.2 J 3 sp rr w nw (Or.inl rfl) _ rfl) (fun v h hq => ?_)
          obtain ⟨rfl, rfl⟩ := hq
          refine mm_T.br (c := (fX5_bearsOf y1 3 o2095.2) < (fJ9_min 99 (y6 + o2095.1))) (a := ((145, [some (.ref 42), some (.int y1), some (.ref 3), some (.int y3), some (.int y4), some (.int y5), some (.int (fJ9_min 99 (y6 + o2095.1))), some (.int y7), some (.int (fX5_leadsTo y4 (y5 + y7) 0 1 3 I))], []), (107, o2095.2, J, mm_rf 3 sp rr w nw))) (b := ((150, [some (.ref 42), some (.int y1), some (.ref 3), some (.int y3), some (.int y4), some (.int y5), some (.int (fJ9_min 99 (y6 + o2095.1))), some (.int y7), some (.int (fX5_leadsTo y4 (y5 + y7) 0 1 3 I))], []), (107, o2095.2, J, mm_rf 3 sp rr w nw))) rfl (fun h2096 => ?_) (fun h2096 => ?_)
          · rw [if_pos h2096] at e
            refine mm_T.seg (f' := (149, [some (.ref 42), some (.int y1), some (.ref 3), some (.int y3), some (.int y4), some (.int y5), some (.int (fJ9_min 99 (y6 + o2095.1))), some (.int y7), some (.int (fX5_leadsTo y4 (y5 + y7) 0 1 3 I))], [(.int (y7 + 1))])) (h' := (107, o2095.2, J, mm_rf 3 sp rr w nw)) 3 rfl ?_
            cases e
            exact mm_T.ret rfl (kr _ _ rfl)
          · rw [if_neg h2096] at e
            refine mm_T.seg (f' := (50, [some (.ref 42), some (.int y1), some (.ref 3), some (.int y3), some (.int (fX5_leadsTo y4 (y5 + y7) 0 1 3 I)), some (.int y5), some (.int (fJ9_min 99 (y6 + o2095.1))), some (.int (y7 + 1)), some (.int (fX5_leadsTo y4 (y5 + y7) 0 1 3 I))], [])) (h' := (107, o2095.2, J, mm_rf 3 sp rr w nw)) 4 rfl ?_
            refine mm_T.mask [true, true, true, true, true, true, true, true, false] ?_
            exact ih y1 y3 (fX5_leadsTo y4 (y5 + y7) 0 1 3 I) y5 (fJ9_min 99 (y6 + o2095.1)) (y7 + 1) o2095.2 J 3 sp rr w nw (Or.inl rfl) out e kr ke
        · rw [if_neg h2094] at e
          refine mm_T.seg (f' := (94, [some (.ref 42), some (.int y1), some (.ref 3), some (.int y3), some (.int y4), some (.int y5), some (.int y6), some (.int y7), some (.int (fX5_leadsTo y4 (y5 + y7) 0 1 3 I))], [(.int (-1))])) (h' := (107, I, J, mm_rf 3 sp rr w nw)) 1 rfl ?_
          cases e
          exact mm_T.ret rfl (kr _ _ rfl)
      · rw [if_neg h2093] at e
        cases e
        refine mm_T.mask [false, false, false, false, false, false, false, false, false] ?_
        exact ke _ _ rfl
    · rw [fX8_strokesToScorch_L50] at e
      refine mm_T.seg (f' := (59, [some (.ref 42), some (.int y1), some (.ref 19), some (.int y3), some (.int y4), some (.int y5), some (.int y6), some (.int y7), none], [(.int (I 19 1)), (.int (y5 + y7))])) (h' := (107, I, J, mm_rf 19 sp rr w nw)) 5 rfl ?_
      refine mm_T.br (c := (y5 + y7) < (I 19 1)) (a := ((62, [some (.ref 42), some (.int y1), some (.ref 19), some (.int y3), some (.int y4), some (.int y5), some (.int y6), some (.int y7), none], []), (107, I, J, mm_rf 19 sp rr w nw))) (b := ((160, [some (.ref 42), some (.int y1), some (.ref 19), some (.int y3), some (.int y4), some (.int y5), some (.int y6), some (.int y7), none], []), (107, I, J, mm_rf 19 sp rr w nw))) rfl (fun h2093 => ?_) (fun h2093 => ?_)
      · rw [if_pos h2093] at e
        refine mm_T.seg (f' := (72, [some (.ref 42), some (.int y1), some (.ref 19), some (.int y3), some (.int y4), some (.int y5), some (.int y6), some (.int y7), none], [(.int 1), (.int 0), (.int (y5 + y7)), (.int y4), (.ref 19)])) (h' := (107, I, J, mm_rf 19 sp rr w nw)) 7 rfl ?_
        refine mm_T.call (t := 81) (as := [(.ref 19), (.int y4), (.int (y5 + y7)), (.int 0), (.int 1)]) (f' := (75, [some (.ref 42), some (.int y1), some (.ref 19), some (.int y3), some (.int y4), some (.int y5), some (.int y6), some (.int y7), none], [])) rfl (tX5_leadsTo (d + 1) y4 (y5 + y7) 0 1 19 I J 19 sp rr w nw (Or.inr rfl) _ rfl) (fun v h hq => ?_)
        obtain ⟨rfl, rfl⟩ := hq
        refine mm_T.seg (f' := (87, [some (.ref 42), some (.int y1), some (.ref 19), some (.int y3), some (.int y4), some (.int y5), some (.int y6), some (.int y7), some (.int (fX5_leadsTo y4 (y5 + y7) 0 1 19 I))], [(.int ((y5 + y7) + 1)), (.int (fX5_leadsTo y4 (y5 + y7) 0 1 19 I)), (.ref 19)])) (h' := (107, I, J, mm_rf 19 sp rr w nw)) 8 rfl ?_
        refine mm_T.call (t := 69) (as := [(.ref 19), (.int (fX5_leadsTo y4 (y5 + y7) 0 1 19 I)), (.int ((y5 + y7) + 1))]) (f' := (90, [some (.ref 42), some (.int y1), some (.ref 19), some (.int y3), some (.int y4), some (.int y5), some (.int y6), some (.int y7), some (.int (fX5_leadsTo y4 (y5 + y7) 0 1 19 I))], [])) rfl (tX5_ironAt (d + 1) (fX5_leadsTo y4 (y5 + y7) 0 1 19 I) ((y5 + y7) + 1) 19 I J 19 sp rr w nw (Or.inr rfl) _ rfl) (fun v h hq => ?_)
        obtain ⟨rfl, rfl⟩ := hq
        refine mm_T.br (c := (fX5_ironAt (fX5_leadsTo y4 (y5 + y7) 0 1 19 I) ((y5 + y7) + 1) 19 I) = 0) (a := ((95, [some (.ref 42), some (.int y1), some (.ref 19), some (.int y3), some (.int y4), some (.int y5), some (.int y6), some (.int y7), some (.int (fX5_leadsTo y4 (y5 + y7) 0 1 19 I))], []), (107, I, J, mm_rf 19 sp rr w nw))) (b := ((93, [some (.ref 42), some (.int y1), some (.ref 19), some (.int y3), some (.int y4), some (.int y5), some (.int y6), some (.int y7), some (.int (fX5_leadsTo y4 (y5 + y7) 0 1 19 I))], []), (107, I, J, mm_rf 19 sp rr w nw))) rfl (fun h2094 => ?_) (fun h2094 => ?_)
        · rw [if_pos h2094] at e
          refine mm_T.seg (f' := (112, [some (.ref 42), some (.int y1), some (.ref 19), some (.int y3), some (.int y4), some (.int y5), some (.int y6), some (.int y7), some (.int (fX5_leadsTo y4 (y5 + y7) 0 1 19 I))], [(.int y1), (.ref 18), (.int y3), (.int y4), (.int (y5 + y7)), (.int y1), (.ref 19), (.int y6)])) (h' := (107, I, J, mm_rf 19 sp rr w nw)) 11 rfl ?_
          refine mm_T.call (t := 110) (as := [(.ref 18), (.int y1)]) (f' := (115, [some (.ref 42), some (.int y1), some (.ref 19), some (.int y3), some (.int y4), some (.int y5), some (.int y6), some (.int y7), some (.int (fX5_leadsTo y4 (y5 + y7) 0 1 19 I))], [(.int y3), (.int y4), (.int (y5 + y7)), (.int y1), (.ref 19), (.int y6)])) rfl (tX7_strokesOf (d + 0) y1 I J 19 sp rr w nw _ rfl) (fun v h hq => ?_)
          obtain ⟨rfl, rfl⟩ := hq
          refine mm_T.seg (f' := (120, [some (.ref 42), some (.int y1), some (.ref 19), some (.int y3), some (.int y4), some (.int y5), some (.int y6), some (.int y7), some (.int (fX5_leadsTo y4 (y5 + y7) 0 1 19 I))], [(.int y6), (.int ((fX7_strokesOf y1 I) + y7)), (.int y3), (.int y4), (.int (y5 + y7)), (.int y1), (.ref 19), (.int y6)])) (h' := (107, I, J, mm_rf 19 sp rr w nw)) 3 rfl ?_
          obtain ⟨o2095, eo2095, e⟩ := mm_bind e
          refine mm_T.call (t := 82) (as := [(.ref 19), (.int y1), (.int (y5 + y7)), (.int y4), (.int y3), (.int ((fX7_strokesOf y1 I) + y7)), (.int y6)]) (f' := (123, [some (.ref 42), some (.int y1), some (.ref 19), some (.int y3), some (.int y4), some (.int y5), some (.int y6), some (.int y7), some (.int (fX5_leadsTo y4 (y5 + y7) 0 1 19 I))], [(.int y6)])) rfl (tX5_warmth (d + 0) n y1 (y5 + y7) y4 y3 ((fX7_strokesOf y1 I) + y7) y6 19 I J 19 sp rr w nw (Or.inr rfl) o2095 eo2095) (fun v h hq => ?_)
          obtain ⟨rfl, rfl⟩ := hq
          refine mm_T.seg (f' := (130, [some (.ref 42), some (.int y1), some (.ref 19), some (.int y3), some (.int y4), some (.int y5), some (.int (y6 + o2095.1)), some (.int y7), some (.int (fX5_leadsTo y4 (y5 + y7) 0 1 19 I))], [(.int (y6 + o2095.1)), (.int 99)])) (h' := (107, o2095.2, J, mm_rf 19 sp rr w nw)) 4 rfl ?_
          refine mm_T.call (t := 348) (as := [(.int 99), (.int (y6 + o2095.1))]) (f' := (133, [some (.ref 42), some (.int y1), some (.ref 19), some (.int y3), some (.int y4), some (.int y5), some (.int (y6 + o2095.1)), some (.int y7), some (.int (fX5_leadsTo y4 (y5 + y7) 0 1 19 I))], [])) rfl (tJ9_min (d + 2) 99 (y6 + o2095.1) o2095.2 J 19 sp rr w nw _ rfl) (fun v h hq => ?_)
          obtain ⟨rfl, rfl⟩ := hq
          refine mm_T.seg (f' := (139, [some (.ref 42), some (.int y1), some (.ref 19), some (.int y3), some (.int y4), some (.int y5), some (.int (fJ9_min 99 (y6 + o2095.1))), some (.int y7), some (.int (fX5_leadsTo y4 (y5 + y7) 0 1 19 I))], [(.int y1), (.ref 19), (.int (fJ9_min 99 (y6 + o2095.1)))])) (h' := (107, o2095.2, J, mm_rf 19 sp rr w nw)) 4 rfl ?_
          refine mm_T.call (t := 79) (as := [(.ref 19), (.int y1)]) (f' := (142, [some (.ref 42), some (.int y1), some (.ref 19), some (.int y3), some (.int y4), some (.int y5), some (.int (fJ9_min 99 (y6 + o2095.1))), some (.int y7), some (.int (fX5_leadsTo y4 (y5 + y7) 0 1 19 I))], [(.int (fJ9_min 99 (y6 + o2095.1)))])) rfl (tX5_bearsOf (d + 1) y1 19 o2095.2 J 19 sp rr w nw (Or.inr rfl) _ rfl) (fun v h hq => ?_)
          obtain ⟨rfl, rfl⟩ := hq
          refine mm_T.br (c := (fX5_bearsOf y1 19 o2095.2) < (fJ9_min 99 (y6 + o2095.1))) (a := ((145, [some (.ref 42), some (.int y1), some (.ref 19), some (.int y3), some (.int y4), some (.int y5), some (.int (fJ9_min 99 (y6 + o2095.1))), some (.int y7), some (.int (fX5_leadsTo y4 (y5 + y7) 0 1 19 I))], []), (107, o2095.2, J, mm_rf 19 sp rr w nw))) (b := ((150, [some (.ref 42), some (.int y1), some (.ref 19), some (.int y3), some (.int y4), some (.int y5), some (.int (fJ9_min 99 (y6 + o2095.1))), some (.int y7), some (.int (fX5_leadsTo y4 (y5 + y7) 0 1 19 I))], []), (107, o2095.2, J, mm_rf 19 sp rr w nw))) rfl (fun h2096 => ?_) (fun h2096 => ?_)
          · rw [if_pos h2096] at e
            refine mm_T.seg (f' := (149, [some (.ref 42), some (.int y1), some (.ref 19), some (.int y3), some (.int y4), some (.int y5), some (.int (fJ9_min 99 (y6 + o2095.1))), some (.int y7), some (.int (fX5_leadsTo y4 (y5 + y7) 0 1 19 I))], [(.int (y7 + 1))])) (h' := (107, o2095.2, J, mm_rf 19 sp rr w nw)) 3 rfl ?_
            cases e
            exact mm_T.ret rfl (kr _ _ rfl)
          · rw [if_neg h2096] at e
            refine mm_T.seg (f' := (50, [some (.ref 42), some (.int y1), some (.ref 19), some (.int y3), some (.int (fX5_leadsTo y4 (y5 + y7) 0 1 19 I)), some (.int y5), some (.int (fJ9_min 99 (y6 + o2095.1))), some (.int (y7 + 1)), some (.int (fX5_leadsTo y4 (y5 + y7) 0 1 19 I))], [])) (h' := (107, o2095.2, J, mm_rf 19 sp rr w nw)) 4 rfl ?_
            refine mm_T.mask [true, true, true, true, true, true, true, true, false] ?_
            exact ih y1 y3 (fX5_leadsTo y4 (y5 + y7) 0 1 19 I) y5 (fJ9_min 99 (y6 + o2095.1)) (y7 + 1) o2095.2 J 19 sp rr w nw (Or.inr rfl) out e kr ke
        · rw [if_neg h2094] at e
          refine mm_T.seg (f' := (94, [some (.ref 42), some (.int y1), some (.ref 19), some (.int y3), some (.int y4), some (.int y5), some (.int y6), some (.int y7), some (.int (fX5_leadsTo y4 (y5 + y7) 0 1 19 I))], [(.int (-1))])) (h' := (107, I, J, mm_rf 19 sp rr w nw)) 1 rfl ?_
          cases e
          exact mm_T.ret rfl (kr _ _ rfl)
      · rw [if_neg h2093] at e
        cases e
        refine mm_T.mask [false, false, false, false, false, false, false, false, false] ?_
        exact ke _ _ rfl
set_option maxRecDepth 100000 in
set_option maxHeartbeats 4000000 in
theorem tX8_strokesToScorch (d n : Nat) (x1 : Int32) (I : Nat → Nat → Int32) (J : Nat → Nat → Int64) (rv sp rr w nw : Nat) (hrv : rv = 3 ∨ rv = 19) (out : Int32 × (Nat → Nat → Int32)) (e : fX8_strokesToScorch n x1 I rv = some out) : mm_T none (d + 3) 129 (mm_ent 129 [(.ref 42), (.int x1)]) (107, I, J, mm_rf rv sp rr w nw) (fun v h => v = some (.int out.1) ∧ h = (107, out.2, J, mm_rf rv sp rr w nw)) := by
  rcases hrv with rfl | rfl
  · unfold fX8_strokesToScorch at e
    refine mm_T.seg (f' := (13, [some (.ref 42), some (.int x1), some (.ref 3), none, none, none, none, none, none], [(.int x1), (.ref 18)])) (h' := (107, I, J, mm_rf 3 sp rr w nw)) 7 rfl ?_
    obtain ⟨o2092, eo2092, e⟩ := mm_bind e
    refine mm_T.call (t := 118) (as := [(.ref 18), (.int x1)]) (f' := (16, [some (.ref 42), some (.int x1), some (.ref 3), none, none, none, none, none, none], [])) rfl (tX7_burdenOf (d + 0) n x1 I J 3 sp rr w nw (Or.inl rfl) o2092 eo2092) (fun v h hq => ?_)
    obtain ⟨rfl, rfl⟩ := hq
    refine mm_T.seg (f' := (22, [some (.ref 42), some (.int x1), some (.ref 3), some (.int o2092), none, none, none, none, none], [(.int x1), (.ref 18)])) (h' := (107, I, J, mm_rf 3 sp rr w nw)) 4 rfl ?_
    refine mm_T.call (t := 105) (as := [(.ref 18), (.int x1)]) (f' := (25, [some (.ref 42), some (.int x1), some (.ref 3), some (.int o2092), none, none, none, none, none], [])) rfl (tX7_columnOf (d + 0) x1 I J 3 sp rr w nw _ rfl) (fun v h hq => ?_)
    obtain ⟨rfl, rfl⟩ := hq
    refine mm_T.seg (f' := (32, [some (.ref 42), some (.int x1), some (.ref 3), some (.int o2092), some (.int (fX7_columnOf x1 I)), none, none, none, none], [(.int x1), (.ref 18)])) (h' := (107, I, J, mm_rf 3 sp rr w nw)) 4 rfl ?_
    refine mm_T.call (t := 106) (as := [(.ref 18), (.int x1)]) (f' := (35, [some (.ref 42), some (.int x1), some (.ref 3), some (.int o2092), some (.int (fX7_columnOf x1 I)), none, none, none, none], [])) rfl (tX7_rowOf (d + 0) x1 I J 3 sp rr w nw _ rfl) (fun v h hq => ?_)
    obtain ⟨rfl, rfl⟩ := hq
    refine mm_T.seg (f' := (42, [some (.ref 42), some (.int x1), some (.ref 3), some (.int o2092), some (.int (fX7_columnOf x1 I)), some (.int (fX7_rowOf x1 I)), none, none, none], [(.int x1), (.ref 18)])) (h' := (107, I, J, mm_rf 3 sp rr w nw)) 4 rfl ?_
    refine mm_T.call (t := 107) (as := [(.ref 18), (.int x1)]) (f' := (45, [some (.ref 42), some (.int x1), some (.ref 3), some (.int o2092), some (.int (fX7_columnOf x1 I)), some (.int (fX7_rowOf x1 I)), none, none, none], [])) rfl (tX7_heatOf (d + 0) x1 I J 3 sp rr w nw _ rfl) (fun v h hq => ?_)
    obtain ⟨rfl, rfl⟩ := hq
    refine mm_T.seg (f' := (50, [some (.ref 42), some (.int x1), some (.ref 3), some (.int o2092), some (.int (fX7_columnOf x1 I)), some (.int (fX7_rowOf x1 I)), some (.int (fX7_heatOf x1 I)), some (.int 0), none], [])) (h' := (107, I, J, mm_rf 3 sp rr w nw)) 3 rfl ?_
    refine mm_T.mask [true, true, true, true, true, true, true, true, false] ?_
    obtain ⟨o2097, eo2097, e⟩ := mm_bind e
    rcases o2097 with ⟨va2098 | vb2098, vs2098_0⟩
    · cases e
      refine tlX8_strokesToScorch_L50 d _ n x1 o2092 (fX7_columnOf x1 I) (fX7_rowOf x1 I) (fX7_heatOf x1 I) 0 I J 3 sp rr w nw (Or.inl rfl) _ eo2097 (fun z z0 hz => ?_) (fun z z0 hz => ?_)
      · cases hz; exact ⟨rfl, rfl⟩
      · cases hz
    · refine tlX8_strokesToScorch_L50 d _ n x1 o2092 (fX7_columnOf x1 I) (fX7_rowOf x1 I) (fX7_heatOf x1 I) 0 I J 3 sp rr w nw (Or.inl rfl) (.inr vb2098, vs2098_0) eo2097 (fun z z0 hz => ?_) (fun z z0 hz => ?_)
      · cases hz
      · cases hz
        refine mm_T.seg (f' := (161, [none, none, none, none, none, none, none, none, none], [(.int (-1))])) (h' := (107, vs2098_0, J, mm_rf 3 sp rr w nw)) 1 rfl ?_
        cases e
        exact mm_T.ret rfl ⟨rfl, rfl⟩
  · unfold fX8_strokesToScorch at e
    refine mm_T.seg (f' := (13, [some (.ref 42), some (.int x1), some (.ref 19), none, none, none, none, none, none], [(.int x1), (.ref 18)])) (h' := (107, I, J, mm_rf 19 sp rr w nw)) 7 rfl ?_
    obtain ⟨o2092, eo2092, e⟩ := mm_bind e
    refine mm_T.call (t := 118) (as := [(.ref 18), (.int x1)]) (f' := (16, [some (.ref 42), some (.int x1), some (.ref 19), none, none, none, none, none, none], [])) rfl (tX7_burdenOf (d + 0) n x1 I J 19 sp rr w nw (Or.inr rfl) o2092 eo2092) (fun v h hq => ?_)
    obtain ⟨rfl, rfl⟩ := hq
    refine mm_T.seg (f' := (22, [some (.ref 42), some (.int x1), some (.ref 19), some (.int o2092), none, none, none, none, none], [(.int x1), (.ref 18)])) (h' := (107, I, J, mm_rf 19 sp rr w nw)) 4 rfl ?_
    refine mm_T.call (t := 105) (as := [(.ref 18), (.int x1)]) (f' := (25, [some (.ref 42), some (.int x1), some (.ref 19), some (.int o2092), none, none, none, none, none], [])) rfl (tX7_columnOf (d + 0) x1 I J 19 sp rr w nw _ rfl) (fun v h hq => ?_)
    obtain ⟨rfl, rfl⟩ := hq
    refine mm_T.seg (f' := (32, [some (.ref 42), some (.int x1), some (.ref 19), some (.int o2092), some (.int (fX7_columnOf x1 I)), none, none, none, none], [(.int x1), (.ref 18)])) (h' := (107, I, J, mm_rf 19 sp rr w nw)) 4 rfl ?_
    refine mm_T.call (t := 106) (as := [(.ref 18), (.int x1)]) (f' := (35, [some (.ref 42), some (.int x1), some (.ref 19), some (.int o2092), some (.int (fX7_columnOf x1 I)), none, none, none, none], [])) rfl (tX7_rowOf (d + 0) x1 I J 19 sp rr w nw _ rfl) (fun v h hq => ?_)
    obtain ⟨rfl, rfl⟩ := hq
    refine mm_T.seg (f' := (42, [some (.ref 42), some (.int x1), some (.ref 19), some (.int o2092), some (.int (fX7_columnOf x1 I)), some (.int (fX7_rowOf x1 I)), none, none, none], [(.int x1), (.ref 18)])) (h' := (107, I, J, mm_rf 19 sp rr w nw)) 4 rfl ?_
    refine mm_T.call (t := 107) (as := [(.ref 18), (.int x1)]) (f' := (45, [some (.ref 42), some (.int x1), some (.ref 19), some (.int o2092), some (.int (fX7_columnOf x1 I)), some (.int (fX7_rowOf x1 I)), none, none, none], [])) rfl (tX7_heatOf (d + 0) x1 I J 19 sp rr w nw _ rfl) (fun v h hq => ?_)
    obtain ⟨rfl, rfl⟩ := hq
    refine mm_T.seg (f' := (50, [some (.ref 42), some (.int x1), some (.ref 19), some (.int o2092), some (.int (fX7_columnOf x1 I)), some (.int (fX7_rowOf x1 I)), some (.int (fX7_heatOf x1 I)), some (.int 0), none], [])) (h' := (107, I, J, mm_rf 19 sp rr w nw)) 3 rfl ?_
    refine mm_T.mask [true, true, true, true, true, true, true, true, false] ?_
    obtain ⟨o2097, eo2097, e⟩ := mm_bind e
    rcases o2097 with ⟨va2098 | vb2098, vs2098_0⟩
    · cases e
      refine tlX8_strokesToScorch_L50 d _ n x1 o2092 (fX7_columnOf x1 I) (fX7_rowOf x1 I) (fX7_heatOf x1 I) 0 I J 19 sp rr w nw (Or.inr rfl) _ eo2097 (fun z z0 hz => ?_) (fun z z0 hz => ?_)
      · cases hz; exact ⟨rfl, rfl⟩
      · cases hz
    · refine tlX8_strokesToScorch_L50 d _ n x1 o2092 (fX7_columnOf x1 I) (fX7_rowOf x1 I) (fX7_heatOf x1 I) 0 I J 19 sp rr w nw (Or.inr rfl) (.inr vb2098, vs2098_0) eo2097 (fun z z0 hz => ?_) (fun z z0 hz => ?_)
      · cases hz
      · cases hz
        refine mm_T.seg (f' := (161, [none, none, none, none, none, none, none, none, none], [(.int (-1))])) (h' := (107, vs2098_0, J, mm_rf 19 sp rr w nw)) 1 rfl ?_
        cases e
        exact mm_T.ret rfl ⟨rfl, rfl⟩
set_option maxRecDepth 100000 in
set_option maxHeartbeats 4000000 in
theorem tlX9_widthOf_L4 (d : Nat) (Q : Option Value → mm_H → Prop) : ∀ (n : Nat) (y1 : Int32) (y2 : Int32) (y3 : Int32) (I : Nat → Nat → Int32) (J : Nat → Nat → Int64) (rv sp rr w nw : Nat), (rv = 3 ∨ rv = 19) → ∀ (out : Int32), fX9_widthOf_L4 n y1 y2 y3 I rv = some out → mm_T none (d + 2) 131 (46, [none, none, some (.int out), none], []) (107, I, J, mm_rf rv sp rr w nw) Q → mm_T none (d + 2) 131 (4, [some (.ref 45), some (.int y1), some (.int y2), some (.int y3)], []) (107, I, J, mm_rf rv sp rr w nw) Q := by
  intro n
  induction n with
  | zero =>
    intro y1 y2 y3 I J rv sp rr w nw hrv out e k
    rw [fX9_widthOf_L4] at e; cases e
  | succ n ih =>
    intro y1 y2 y3 I J rv sp rr w nw hrv out e k
    rcases hrv with rfl | rfl
    · rw [fX9_widthOf_L4] at e
      refine mm_T.seg (f' := (15, [some (.ref 45), some (.int y1), some (.int y2), some (.int y3)], [(.int (I 3 5)), (.int y3)])) (h' := (107, I, J, mm_rf 3 sp rr w nw)) 5 rfl ?_
      refine mm_T.br (c := y3 < (I 3 5)) (a := ((18, [some (.ref 45), some (.int y1), some (.int y2), some (.int y3)], []), (107, I, J, mm_rf 3 sp rr w nw))) (b := ((46, [some (.ref 45), some (.int y1), some (.int y2), some (.int y3)], []), (107, I, J, mm_rf 3 sp rr w nw))) rfl (fun h2101 => ?_) (fun h2101 => ?_)
      · rw [if_pos h2101] at e
        refine mm_T.seg (f' := (23, [some (.ref 45), some (.int y1), some (.int y2), some (.int y3)], [(.int ((y1 >>> (y3 &&& 31)) &&& 1))])) (h' := (107, I, J, mm_rf 3 sp rr w nw)) 5 rfl ?_
        refine mm_T.br (c := ((y1 >>> (y3 &&& 31)) &&& 1) = 0) (a := ((40, [some (.ref 45), some (.int y1), some (.int y2), some (.int y3)], []), (107, I, J, mm_rf 3 sp rr w nw))) (b := ((26, [some (.ref 45), some (.int y1), some (.int y2), some (.int y3)], []), (107, I, J, mm_rf 3 sp rr w nw))) rfl (fun h2102 => ?_) (fun h2102 => ?_)
        · rw [if_pos h2102] at e
          refine mm_T.seg (f' := (4, [some (.ref 45), some (.int y1), some (.int y2), some (.int (y3 + 1))], [])) (h' := (107, I, J, mm_rf 3 sp rr w nw)) 2 rfl ?_
          refine mm_T.mask [true, true, true, true] ?_
          exact ih y1 y2 (y3 + 1) I J 3 sp rr w nw (Or.inl rfl) out e k
        · rw [if_neg h2102] at e
          refine mm_T.seg (f' := (35, [some (.ref 45), some (.int y1), some (.int y2), some (.int y3)], [(.int y3), (.ref 3), (.int y2)])) (h' := (107, I, J, mm_rf 3 sp rr w nw)) 5 rfl ?_
          refine mm_T.call (t := 80) (as := [(.ref 3), (.int y3)]) (f' := (38, [some (.ref 45), some (.int y1), some (.int y2), some (.int y3)], [(.int y2)])) rfl (tX5_loadWide (d + 0) y3 3 I J 3 sp rr w nw (Or.inl rfl) _ rfl) (fun v h hq => ?_)
          obtain ⟨rfl, rfl⟩ := hq
          refine mm_T.seg (f' := (4, [some (.ref 45), some (.int y1), some (.int (y2 + (fX5_loadWide y3 3 I))), some (.int (y3 + 1))], [])) (h' := (107, I, J, mm_rf 3 sp rr w nw)) 4 rfl ?_
          refine mm_T.mask [true, true, true, true] ?_
          exact ih y1 (y2 + (fX5_loadWide y3 3 I)) (y3 + 1) I J 3 sp rr w nw (Or.inl rfl) out e k
      · rw [if_neg h2101] at e
        cases e
        refine mm_T.mask [false, false, true, false] ?_
        exact k
    · rw [fX9_widthOf_L4] at e
      refine mm_T.seg (f' := (15, [some (.ref 45), some (.int y1), some (.int y2), some (.int y3)], [(.int (I 19 5)), (.int y3)])) (h' := (107, I, J, mm_rf 19 sp rr w nw)) 5 rfl ?_
      refine mm_T.br (c := y3 < (I 19 5)) (a := ((18, [some (.ref 45), some (.int y1), some (.int y2), some (.int y3)], []), (107, I, J, mm_rf 19 sp rr w nw))) (b := ((46, [some (.ref 45), some (.int y1), some (.int y2), some (.int y3)], []), (107, I, J, mm_rf 19 sp rr w nw))) rfl (fun h2101 => ?_) (fun h2101 => ?_)
      · rw [if_pos h2101] at e
        refine mm_T.seg (f' := (23, [some (.ref 45), some (.int y1), some (.int y2), some (.int y3)], [(.int ((y1 >>> (y3 &&& 31)) &&& 1))])) (h' := (107, I, J, mm_rf 19 sp rr w nw)) 5 rfl ?_
        refine mm_T.br (c := ((y1 >>> (y3 &&& 31)) &&& 1) = 0) (a := ((40, [some (.ref 45), some (.int y1), some (.int y2), some (.int y3)], []), (107, I, J, mm_rf 19 sp rr w nw))) (b := ((26, [some (.ref 45), some (.int y1), some (.int y2), some (.int y3)], []), (107, I, J, mm_rf 19 sp rr w nw))) rfl (fun h2102 => ?_) (fun h2102 => ?_)
        · rw [if_pos h2102] at e
          refine mm_T.seg (f' := (4, [some (.ref 45), some (.int y1), some (.int y2), some (.int (y3 + 1))], [])) (h' := (107, I, J, mm_rf 19 sp rr w nw)) 2 rfl ?_
          refine mm_T.mask [true, true, true, true] ?_
          exact ih y1 y2 (y3 + 1) I J 19 sp rr w nw (Or.inr rfl) out e k
        · rw [if_neg h2102] at e
          refine mm_T.seg (f' := (35, [some (.ref 45), some (.int y1), some (.int y2), some (.int y3)], [(.int y3), (.ref 19), (.int y2)])) (h' := (107, I, J, mm_rf 19 sp rr w nw)) 5 rfl ?_
          refine mm_T.call (t := 80) (as := [(.ref 19), (.int y3)]) (f' := (38, [some (.ref 45), some (.int y1), some (.int y2), some (.int y3)], [(.int y2)])) rfl (tX5_loadWide (d + 0) y3 19 I J 19 sp rr w nw (Or.inr rfl) _ rfl) (fun v h hq => ?_)
          obtain ⟨rfl, rfl⟩ := hq
          refine mm_T.seg (f' := (4, [some (.ref 45), some (.int y1), some (.int (y2 + (fX5_loadWide y3 19 I))), some (.int (y3 + 1))], [])) (h' := (107, I, J, mm_rf 19 sp rr w nw)) 4 rfl ?_
          refine mm_T.mask [true, true, true, true] ?_
          exact ih y1 (y2 + (fX5_loadWide y3 19 I)) (y3 + 1) I J 19 sp rr w nw (Or.inr rfl) out e k
      · rw [if_neg h2101] at e
        cases e
        refine mm_T.mask [false, false, true, false] ?_
        exact k
set_option maxRecDepth 100000 in
set_option maxHeartbeats 4000000 in
theorem tX9_widthOf (d n : Nat) (x1 : Int32) (I : Nat → Nat → Int32) (J : Nat → Nat → Int64) (rv sp rr w nw : Nat) (hrv : rv = 3 ∨ rv = 19) (out : Int32) (e : fX9_widthOf n x1 I rv = some out) : mm_T none (d + 2) 131 (mm_ent 131 [(.ref 45), (.int x1)]) (107, I, J, mm_rf rv sp rr w nw) (fun v h => v = some (.int out) ∧ h = (107, I, J, mm_rf rv sp rr w nw)) := by
  rcases hrv with rfl | rfl
  · unfold fX9_widthOf at e
    refine mm_T.seg (f' := (4, [some (.ref 45), some (.int x1), some (.int 0), some (.int 0)], [])) (h' := (107, I, J, mm_rf 3 sp rr w nw)) 4 rfl ?_
    refine mm_T.mask [true, true, true, true] ?_
    obtain ⟨o2103, eo2103, e⟩ := mm_bind e
    refine tlX9_widthOf_L4 d _ n x1 0 0 I J 3 sp rr w nw (Or.inl rfl) o2103 eo2103 ?_
    refine mm_T.seg (f' := (47, [none, none, some (.int o2103), none], [(.int o2103)])) (h' := (107, I, J, mm_rf 3 sp rr w nw)) 1 rfl ?_
    cases e
    exact mm_T.ret rfl ⟨rfl, rfl⟩
  · unfold fX9_widthOf at e
    refine mm_T.seg (f' := (4, [some (.ref 45), some (.int x1), some (.int 0), some (.int 0)], [])) (h' := (107, I, J, mm_rf 19 sp rr w nw)) 4 rfl ?_
    refine mm_T.mask [true, true, true, true] ?_
    obtain ⟨o2103, eo2103, e⟩ := mm_bind e
    refine tlX9_widthOf_L4 d _ n x1 0 0 I J 19 sp rr w nw (Or.inr rfl) o2103 eo2103 ?_
    refine mm_T.seg (f' := (47, [none, none, some (.int o2103), none], [(.int o2103)])) (h' := (107, I, J, mm_rf 19 sp rr w nw)) 1 rfl ?_
    cases e
    exact mm_T.ret rfl ⟨rfl, rfl⟩
