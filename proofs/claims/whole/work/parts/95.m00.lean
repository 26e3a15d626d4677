set_option maxRecDepth 100000 in
set_option maxHeartbeats 4000000 in
theorem tlX12_four_L3 (d : Nat) (Q : Option Value → mm_H → Prop) : ∀ (n : Nat) (y1 : Int32) (y2 : Int32) (I : Nat → Nat → Int32) (J : Nat → Nat → Int64) (rv sp rr w nw : Nat), ∀ (out : (Nat → Nat → Int32)), fX12_four_L3 n y1 y2 I = some out → mm_T none (d + 0) 208 (39, [none, none, none], []) (107, out, J, mm_rf rv sp rr w nw) Q → mm_T none (d + 0) 208 (3, [some (.ref 62), some (.int y1), some (.int y2)], []) (107, I, J, mm_rf rv sp rr w nw) Q := by
  intro n
  induction n with
  | zero =>
    intro y1 y2 I J rv sp rr w nw out e k
    rw [fX12_four_L3] at e; cases e
  | succ n ih =>
    intro y1 y2 I J rv sp rr w nw out e k
    rw [fX12_four_L3] at e
    refine mm_T.seg (f' := (4, [some (.ref 62), some (.int y1), some (.int y2)], [(.int y2)])) (h' := (107, I, J, mm_rf rv sp rr w nw)) 1 rfl ?_
    refine mm_T.br (c := y2 < 0) (a := ((39, [some (.ref 62), some (.int y1), some (.int y2)], []), (107, I, J, mm_rf rv sp rr w nw))) (b := ((7, [some (.ref 62), some (.int y1), some (.int y2)], []), (107, I, J, mm_rf rv sp rr w nw))) rfl (fun h2 => ?_) (fun h2 => ?_)
    · rw [if_pos h2] at e
      cases e
      refine mm_T.mask [false, false, false] ?_
      exact k
    · rw [if_neg h2] at e
      refine mm_T.seg (f' := (11, [some (.ref 62), some (.int y1), some (.int y2)], [(.ref 63)])) (h' := (107, I, J, mm_rf rv sp rr w nw)) 2 rfl ?_
      refine mm_T.seg (f' := (22, [some (.ref 62), some (.int y1), some (.int y2)], [(.int ((y1 >>> (y2 &&& 31)) &&& 255)), (.int (I 62 1)), (.ref 63)])) (h' := (107, I, J, mm_rf rv sp rr w nw)) 7 rfl ?_
      by_cases h3 : (I 62 1) < 0 ∨ 1600 ≤ (I 62 1).toNatClampNeg
      · rw [if_pos h3] at e; cases e
      rw [if_neg h3] at e
      refine mm_T.guard (y := ((23, [some (.ref 62), some (.int y1), some (.int y2)], []), (107, (mm_up I 63 (I 62 1).toNatClampNeg ((y1 >>> (y2 &&& 31)) &&& 255)), J, mm_rf rv sp rr w nw))) rfl h3 ?_
      refine mm_T.seg (f' := (3, [some (.ref 62), some (.int y1), some (.int (y2 + (-8)))], [])) (h' := (107, (mm_up (mm_up I 63 (I 62 1).toNatClampNeg ((y1 >>> (y2 &&& 31)) &&& 255)) 62 1 ((I 62 1) + 1)), J, mm_rf rv sp rr w nw)) 8 rfl ?_
      refine mm_T.mask [true, true, true] ?_
      exact ih y1 (y2 + (-8)) (mm_up (mm_up I 63 (I 62 1).toNatClampNeg ((y1 >>> (y2 &&& 31)) &&& 255)) 62 1 ((I 62 1) + 1)) J rv sp rr w nw out e k
set_option maxRecDepth 100000 in
set_option maxHeartbeats 4000000 in
theorem tX12_four (d n : Nat) (x1 : Int32) (I : Nat → Nat → Int32) (J : Nat → Nat → Int64) (rv sp rr w nw : Nat) (out : (Nat → Nat → Int32)) (e : fX12_four n x1 I = some out) : mm_T none (d + 0) 208 (mm_ent 208 [(.ref 62), (.int x1)]) (107, I, J, mm_rf rv sp rr w nw) (fun v h => v = none ∧ h = (107, out, J, mm_rf rv sp rr w nw)) := by
  unfold fX12_four at e
  refine mm_T.seg (f' := (3, [some (.ref 62), some (.int x1), some (.int 24)], [])) (h' := (107, I, J, mm_rf rv sp rr w nw)) 2 rfl ?_
  refine mm_T.mask [true, true, true] ?_
  obtain ⟨o4, eo4, e⟩ := mm_bind e
  refine tlX12_four_L3 d _ n x1 24 I J rv sp rr w nw o4 eo4 ?_
  cases e
  exact mm_T.ret rfl ⟨rfl, rfl⟩
set_option maxRecDepth 100000 in
set_option maxHeartbeats 4000000 in
theorem tX12_feed (d n : Nat) (x1 : Int32) (x2 : Int32) (x3 : Int32) (x4 : Int32) (x5 : Int32) (I : Nat → Nat → Int32) (J : Nat → Nat → Int64) (rv sp rr w nw : Nat) (out : Int32 × (Nat → Nat → Int32)) (e : fX12_feed n x1 x2 x3 x4 x5 I = some out) : mm_T none (d + 1) 207 (mm_ent 207 [(.ref 62), (.int x1), (.int x2), (.int x3), (.int x4), (.int x5)]) (107, I, J, mm_rf rv sp rr w nw) (fun v h => v = some (.int out.1) ∧ h = (107, out.2, J, mm_rf rv sp rr w nw)) := by
  unfold fX12_feed at e
  refine mm_T.seg (f' := (10, [some (.ref 62), some (.int x1), some (.int x2), some (.int x3), some (.int x4), some (.int x5)], [(.int 1600), (.int ((I 62 1) + 20))])) (h' := (107, I, J, mm_rf rv sp rr w nw)) 5 rfl ?_
  refine mm_T.br (c := 1600 < ((I 62 1) + 20)) (a := ((13, [some (.ref 62), some (.int x1), some (.int x2), some (.int x3), some (.int x4), some (.int x5)], []), (107, I, J, mm_rf rv sp rr w nw))) (b := ((15, [some (.ref 62), some (.int x1), some (.int x2), some (.int x3), some (.int x4), some (.int x5)], []), (107, I, J, mm_rf rv sp rr w nw))) rfl (fun h1 => ?_) (fun h1 => ?_)
  · rw [if_pos h1] at e
    refine mm_T.seg (f' := (14, [some (.ref 62), some (.int x1), some (.int x2), some (.int x3), some (.int x4), some (.int x5)], [(.int (-1))])) (h' := (107, I, J, mm_rf rv sp rr w nw)) 1 rfl ?_
    cases e
    exact mm_T.ret rfl ⟨rfl, rfl⟩
  · rw [if_neg h1] at e
    refine mm_T.seg (f' := (17, [some (.ref 62), some (.int x1), some (.int x2), some (.int x3), some (.int x4), some (.int x5)], [(.int x1), (.ref 62)])) (h' := (107, I, J, mm_rf rv sp rr w nw)) 2 rfl ?_
    obtain ⟨o5, eo5, e⟩ := mm_bind e
    refine mm_T.call (t := 208) (as := [(.ref 62), (.int x1)]) (f' := (20, [some (.ref 62), some (.int x1), some (.int x2), some (.int x3), some (.int x4), some (.int x5)], [])) rfl (tX12_four (d + 0) n x1 I J rv sp rr w nw o5 eo5) (fun v h hq => ?_)
    obtain ⟨rfl, rfl⟩ := hq
    refine mm_T.seg (f' := (22, [some (.ref 62), some (.int x1), some (.int x2), some (.int x3), some (.int x4), some (.int x5)], [(.int x2), (.ref 62)])) (h' := (107, o5, J, mm_rf rv sp rr w nw)) 2 rfl ?_
    obtain ⟨o6, eo6, e⟩ := mm_bind e
    refine mm_T.call (t := 208) (as := [(.ref 62), (.int x2)]) (f' := (25, [some (.ref 62), some (.int x1), some (.int x2), some (.int x3), some (.int x4), some (.int x5)], [])) rfl (tX12_four (d + 0) n x2 o5 J rv sp rr w nw o6 eo6) (fun v h hq => ?_)
    obtain ⟨rfl, rfl⟩ := hq
    refine mm_T.seg (f' := (27, [some (.ref 62), some (.int x1), some (.int x2), some (.int x3), some (.int x4), some (.int x5)], [(.int x3), (.ref 62)])) (h' := (107, o6, J, mm_rf rv sp rr w nw)) 2 rfl ?_
    obtain ⟨o7, eo7, e⟩ := mm_bind e
    refine mm_T.call (t := 208) (as := [(.ref 62), (.int x3)]) (f' := (30, [some (.ref 62), some (.int x1), some (.int x2), some (.int x3), some (.int x4), some (.int x5)], [])) rfl (tX12_four (d + 0) n x3 o6 J rv sp rr w nw o7 eo7) (fun v h hq => ?_)
    obtain ⟨rfl, rfl⟩ := hq
    refine mm_T.seg (f' := (33, [some (.ref 62), some (.int x1), some (.int x2), some (.int x3), some (.int x4), some (.int x5)], [(.int x4), (.ref 62)])) (h' := (107, o7, J, mm_rf rv sp rr w nw)) 2 rfl ?_
    obtain ⟨o8, eo8, e⟩ := mm_bind e
    refine mm_T.call (t := 208) (as := [(.ref 62), (.int x4)]) (f' := (36, [some (.ref 62), some (.int x1), some (.int x2), some (.int x3), some (.int x4), some (.int x5)], [])) rfl (tX12_four (d + 0) n x4 o7 J rv sp rr w nw o8 eo8) (fun v h hq => ?_)
    obtain ⟨rfl, rfl⟩ := hq
    refine mm_T.seg (f' := (39, [some (.ref 62), some (.int x1), some (.int x2), some (.int x3), some (.int x4), some (.int x5)], [(.int x5), (.ref 62)])) (h' := (107, o8, J, mm_rf rv sp rr w nw)) 2 rfl ?_
    obtain ⟨o9, eo9, e⟩ := mm_bind e
    refine mm_T.call (t := 208) (as := [(.ref 62), (.int x5)]) (f' := (42, [some (.ref 62), some (.int x1), some (.int x2), some (.int x3), some (.int x4), some (.int x5)], [])) rfl (tX12_four (d + 0) n x5 o8 J rv sp rr w nw o9 eo9) (fun v h hq => ?_)
    obtain ⟨rfl, rfl⟩ := hq
    refine mm_T.seg (f' := (46, [some (.ref 62), some (.int x1), some (.int x2), some (.int x3), some (.int x4), some (.int x5)], [(.int (o9 62 1))])) (h' := (107, o9, J, mm_rf rv sp rr w nw)) 2 rfl ?_
    cases e
    exact mm_T.ret rfl ⟨rfl, rfl⟩
set_option maxRecDepth 100000 in
set_option maxHeartbeats 4000000 in
theorem tX12_end (d : Nat) (x1 : Int32) (I : Nat → Nat → Int32) (J : Nat → Nat → Int64) (rv sp rr w nw : Nat) (out : Int32 × (Nat → Nat → Int32)) (e : fX12_end x1 I = out) : mm_T none (d + 0) 209 (mm_ent 209 [(.ref 62), (.int x1)]) (107, I, J, mm_rf rv sp rr w nw) (fun v h => v = some (.int out.1) ∧ h = (107, out.2, J, mm_rf rv sp rr w nw)) := by
  unfold fX12_end at e
  refine mm_T.seg (f' := (1, [some (.ref 62), some (.int x1)], [(.int x1)])) (h' := (107, I, J, mm_rf rv sp rr w nw)) 1 rfl ?_
  refine mm_T.br (c := x1 < 0) (a := ((12, [some (.ref 62), some (.int x1)], []), (107, I, J, mm_rf rv sp rr w nw))) (b := ((4, [some (.ref 62), some (.int x1)], []), (107, I, J, mm_rf rv sp rr w nw))) rfl (fun h10 => ?_) (fun h10 => ?_)
  · rw [if_pos h10] at e
    refine mm_T.seg (f' := (13, [some (.ref 62), some (.int x1)], [(.int (-1))])) (h' := (107, I, J, mm_rf rv sp rr w nw)) 1 rfl ?_
    cases e
    exact mm_T.ret rfl ⟨rfl, rfl⟩
  · rw [if_neg h10] at e
    refine mm_T.seg (f' := (9, [some (.ref 62), some (.int x1)], [(.int (I 62 1)), (.int x1)])) (h' := (107, I, J, mm_rf rv sp rr w nw)) 3 rfl ?_
    refine mm_T.br (c := (I 62 1) < x1) (a := ((12, [some (.ref 62), some (.int x1)], []), (107, I, J, mm_rf rv sp rr w nw))) (b := ((14, [some (.ref 62), some (.int x1)], []), (107, I, J, mm_rf rv sp rr w nw))) rfl (fun h11 => ?_) (fun h11 => ?_)
    · rw [if_pos h11] at e
      refine mm_T.seg (f' := (13, [some (.ref 62), some (.int x1)], [(.int (-1))])) (h' := (107, I, J, mm_rf rv sp rr w nw)) 1 rfl ?_
      cases e
      exact mm_T.ret rfl ⟨rfl, rfl⟩
    · rw [if_neg h11] at e
      refine mm_T.seg (f' := (20, [some (.ref 62), some (.int x1)], [(.int x1)])) (h' := (107, (mm_up I 62 1 x1), J, mm_rf rv sp rr w nw)) 4 rfl ?_
      cases e
      exact mm_T.ret rfl ⟨rfl, rfl⟩
set_option maxRecDepth 100000 in
set_option maxHeartbeats 4000000 in
theorem tX12_here (d : Nat) (x1 : Int32) (I : Nat → Nat → Int32) (J : Nat → Nat → Int64) (rv sp rr w nw : Nat) (out : Int32) (e : fX12_here x1 I = some out) : mm_T none (d + 0) 210 (mm_ent 210 [(.ref 62), (.int x1)]) (107, I, J, mm_rf rv sp rr w nw) (fun v h => v = some (.int out) ∧ h = (107, I, J, mm_rf rv sp rr w nw)) := by
  unfold fX12_here at e
  refine mm_T.seg (f' := (10, [some (.ref 62), some (.int x1)], [(.int (I 62 5)), (.int ((I 62 4) + x1))])) (h' := (107, I, J, mm_rf rv sp rr w nw)) 6 rfl ?_
  refine mm_T.br (c := ((I 62 4) + x1) < (I 62 5)) (a := ((13, [some (.ref 62), some (.int x1)], []), (107, I, J, mm_rf rv sp rr w nw))) (b := ((27, [some (.ref 62), some (.int x1)], []), (107, I, J, mm_rf rv sp rr w nw))) rfl (fun h12 => ?_) (fun h12 => ?_)
  · rw [if_pos h12] at e
    refine mm_T.seg (f' := (17, [some (.ref 62), some (.int x1)], [(.ref 63)])) (h' := (107, I, J, mm_rf rv sp rr w nw)) 2 rfl ?_
    refine mm_T.seg (f' := (23, [some (.ref 62), some (.int x1)], [(.int ((I 62 4) + x1)), (.ref 63)])) (h' := (107, I, J, mm_rf rv sp rr w nw)) 4 rfl ?_
    by_cases h13 : ((I 62 4) + x1) < 0 ∨ 1600 ≤ ((I 62 4) + x1).toNatClampNeg
    · rw [if_pos h13] at e; cases e
    rw [if_neg h13] at e
    refine mm_T.guard (c := ((I 62 4) + x1) < 0 ∨ 1600 ≤ ((I 62 4) + x1).toNatClampNeg) (y := ((24, [some (.ref 62), some (.int x1)], [(.int (I 63 ((I 62 4) + x1).toNatClampNeg))]), (107, I, J, mm_rf rv sp rr w nw))) (mm_gen (P := fun z => mm_stp none 210 (23, [some (.ref 62), some (.int x1)], [(.int z), (.ref 63)]) (107, I, J, mm_rf rv sp rr w nw) = if z < 0 ∨ 1600 ≤ z.toNatClampNeg then none else some (.inl ((24, [some (.ref 62), some (.int x1)], [(.int (I 63 z.toNatClampNeg))]), (107, I, J, mm_rf rv sp rr w nw)))) ((I 62 4) + x1) (fun z => rfl)) h13 ?_
    refine mm_T.seg (f' := (28, [some (.ref 62), some (.int x1)], [(.int (I 63 ((I 62 4) + x1).toNatClampNeg))])) (h' := (107, I, J, mm_rf rv sp rr w nw)) 1 rfl ?_
    cases e
    exact mm_T.ret rfl ⟨rfl, rfl⟩
  · rw [if_neg h12] at e
    refine mm_T.seg (f' := (28, [some (.ref 62), some (.int x1)], [(.int (-1))])) (h' := (107, I, J, mm_rf rv sp rr w nw)) 1 rfl ?_
    cases e
    exact mm_T.ret rfl ⟨rfl, rfl⟩
set_option maxRecDepth 100000 in
set_option maxHeartbeats 4000000 in
theorem tX12_isLetter (d : Nat) (x0 : Int32) (I : Nat → Nat → Int32) (J : Nat → Nat → Int64) (rv sp rr w nw : Nat) (out : Int32) (e : fX12_isLetter x0 = out) : mm_T none (d + 0) 211 (mm_ent 211 [(.int x0)]) (107, I, J, mm_rf rv sp rr w nw) (fun v h => v = some (.int out) ∧ h = (107, I, J, mm_rf rv sp rr w nw)) := by
  unfold fX12_isLetter at e
  refine mm_T.seg (f' := (3, [some (.int x0)], [(.int 97), (.int x0)])) (h' := (107, I, J, mm_rf rv sp rr w nw)) 2 rfl ?_
  refine mm_T.br (c := x0 < 97) (a := ((16, [some (.int x0)], []), (107, I, J, mm_rf rv sp rr w nw))) (b := ((6, [some (.int x0)], []), (107, I, J, mm_rf rv sp rr w nw))) rfl (fun h14 => ?_) (fun h14 => ?_)
  · rw [if_pos h14] at e
    refine mm_T.seg (f' := (17, [some (.int x0)], [(.int 0)])) (h' := (107, I, J, mm_rf rv sp rr w nw)) 1 rfl ?_
    cases e
    exact mm_T.ret rfl ⟨rfl, rfl⟩
  · rw [if_neg h14] at e
    refine mm_T.seg (f' := (9, [some (.int x0)], [(.int 122), (.int x0)])) (h' := (107, I, J, mm_rf rv sp rr w nw)) 2 rfl ?_
    refine mm_T.br (c := 122 < x0) (a := ((16, [some (.int x0)], []), (107, I, J, mm_rf rv sp rr w nw))) (b := ((12, [some (.int x0)], []), (107, I, J, mm_rf rv sp rr w nw))) rfl (fun h15 => ?_) (fun h15 => ?_)
    · rw [if_pos h15] at e
      refine mm_T.seg (f' := (17, [some (.int x0)], [(.int 0)])) (h' := (107, I, J, mm_rf rv sp rr w nw)) 1 rfl ?_
      cases e
      exact mm_T.ret rfl ⟨rfl, rfl⟩
    · rw [if_neg h15] at e
      refine mm_T.seg (f' := (17, [some (.int x0)], [(.int 1)])) (h' := (107, I, J, mm_rf rv sp rr w nw)) 2 rfl ?_
      cases e
      exact mm_T.ret rfl ⟨rfl, rfl⟩
set_option maxRecDepth 100000 in
set_option maxHeartbeats 4000000 in
theorem tX12_isDigit (d : Nat) (x0 : Int32) (I : Nat → Nat → Int32) (J : Nat → Nat → Int64) (rv sp rr w nw : Nat) (out : Int32) (e : fX12_isDigit x0 = out) : mm_T none (d + 0) 212 (mm_ent 212 [(.int x0)]) (107, I, J, mm_rf rv sp rr w nw) (fun v h => v = some (.int out) ∧ h = (107, I, J, mm_rf rv sp rr w nw)) := by
  unfold fX12_isDigit at e
  refine mm_T.seg (f' := (3, [some (.int x0)], [(.int 48), (.int x0)])) (h' := (107, I, J, mm_rf rv sp rr w nw)) 2 rfl ?_
  refine mm_T.br (c := x0 < 48) (a := ((16, [some (.int x0)], []), (107, I, J, mm_rf rv sp rr w nw))) (b := ((6, [some (.int x0)], []), (107, I, J, mm_rf rv sp rr w nw))) rfl (fun h16 => ?_) (fun h16 => ?_)
  · rw [if_pos h16] at e
    refine mm_T.seg (f' := (17, [some (.int x0)], [(.int 0)])) (h' := (107, I, J, mm_rf rv sp rr w nw)) 1 rfl ?_
    cases e
    exact mm_T.ret rfl ⟨rfl, rfl⟩
  · rw [if_neg h16] at e
    refine mm_T.seg (f' := (9, [some (.int x0)], [(.int 57), (.int x0)])) (h' := (107, I, J, mm_rf rv sp rr w nw)) 2 rfl ?_
    refine mm_T.br (c := 57 < x0) (a := ((16, [some (.int x0)], []), (107, I, J, mm_rf rv sp rr w nw))) (b := ((12, [some (.int x0)], []), (107, I, J, mm_rf rv sp rr w nw))) rfl (fun h17 => ?_) (fun h17 => ?_)
    · rw [if_pos h17] at e
      refine mm_T.seg (f' := (17, [some (.int x0)], [(.int 0)])) (h' := (107, I, J, mm_rf rv sp rr w nw)) 1 rfl ?_
      cases e
      exact mm_T.ret rfl ⟨rfl, rfl⟩
    · rw [if_neg h17] at e
      refine mm_T.seg (f' := (17, [some (.int x0)], [(.int 1)])) (h' := (107, I, J, mm_rf rv sp rr w nw)) 2 rfl ?_
      cases e
      exact mm_T.ret rfl ⟨rfl, rfl⟩
set_option maxRecDepth 100000 in
set_option maxHeartbeats 4000000 in
theorem tX12_isSign (d : Nat) (x0 : Int32) (I : Nat → Nat → Int32) (J : Nat → Nat → Int64) (rv sp rr w nw : Nat) (out : Int32) (e : fX12_isSign x0 = out) : mm_T none (d + 0) 213 (mm_ent 213 [(.int x0)]) (107, I, J, mm_rf rv sp rr w nw) (fun v h => v = some (.int out) ∧ h = (107, I, J, mm_rf rv sp rr w nw)) := by
  unfold fX12_isSign at e
  refine mm_T.seg (f' := (3, [some (.int x0)], [(.int 59), (.int x0)])) (h' := (107, I, J, mm_rf rv sp rr w nw)) 2 rfl ?_
  refine mm_T.br (c := x0 = 59) (a := ((66, [some (.int x0)], []), (107, I, J, mm_rf rv sp rr w nw))) (b := ((6, [some (.int x0)], []), (107, I, J, mm_rf rv sp rr w nw))) rfl (fun h18 => ?_) (fun h18 => ?_)
  · rw [if_pos h18] at e
    refine mm_T.seg (f' := (71, [some (.int x0)], [(.int 1)])) (h' := (107, I, J, mm_rf rv sp rr w nw)) 2 rfl ?_
    cases e
    exact mm_T.ret rfl ⟨rfl, rfl⟩
  · rw [if_neg h18] at e
    refine mm_T.seg (f' := (9, [some (.int x0)], [(.int 40), (.int x0)])) (h' := (107, I, J, mm_rf rv sp rr w nw)) 2 rfl ?_
    refine mm_T.br (c := x0 = 40) (a := ((66, [some (.int x0)], []), (107, I, J, mm_rf rv sp rr w nw))) (b := ((12, [some (.int x0)], []), (107, I, J, mm_rf rv sp rr w nw))) rfl (fun h19 => ?_) (fun h19 => ?_)
    · rw [if_pos h19] at e
      refine mm_T.seg (f' := (71, [some (.int x0)], [(.int 1)])) (h' := (107, I, J, mm_rf rv sp rr w nw)) 2 rfl ?_
      cases e
      exact mm_T.ret rfl ⟨rfl, rfl⟩
    · rw [if_neg h19] at e
      refine mm_T.seg (f' := (15, [some (.int x0)], [(.int 41), (.int x0)])) (h' := (107, I, J, mm_rf rv sp rr w nw)) 2 rfl ?_
      refine mm_T.br (c := x0 = 41) (a := ((66, [some (.int x0)], []), (107, I, J, mm_rf rv sp rr w nw))) (b := ((18, [some (.int x0)], []), (107, I, J, mm_rf rv sp rr w nw))) rfl (fun h20 => ?_) (fun h20 => ?_)
      · rw [if_pos h20] at e
        refine mm_T.seg (f' := (71, [some (.int x0)], [(.int 1)])) (h' := (107, I, J, mm_rf rv sp rr w nw)) 2 rfl ?_
        cases e
        exact mm_T.ret rfl ⟨rfl, rfl⟩
      · rw [if_neg h20] at e
        refine mm_T.seg (f' := (21, [some (.int x0)], [(.int 60), (.int x0)])) (h' := (107, I, J, mm_rf rv sp rr w nw)) 2 rfl ?_
        refine mm_T.br (c := x0 = 60) (a := ((66, [some (.int x0)], []), (107, I, J, mm_rf rv sp rr w nw))) (b := ((24, [some (.int x0)], []), (107, I, J, mm_rf rv sp rr w nw))) rfl (fun h21 => ?_) (fun h21 => ?_)
        · rw [if_pos h21] at e
          refine mm_T.seg (f' := (71, [some (.int x0)], [(.int 1)])) (h' := (107, I, J, mm_rf rv sp rr w nw)) 2 rfl ?_
          cases e
          exact mm_T.ret rfl ⟨rfl, rfl⟩
        · rw [if_neg h21] at e
          refine mm_T.seg (f' := (27, [some (.int x0)], [(.int 62), (.int x0)])) (h' := (107, I, J, mm_rf rv sp rr w nw)) 2 rfl ?_
          refine mm_T.br (c := x0 = 62) (a := ((66, [some (.int x0)], []), (107, I, J, mm_rf rv sp rr w nw))) (b := ((30, [some (.int x0)], []), (107, I, J, mm_rf rv sp rr w nw))) rfl (fun h22 => ?_) (fun h22 => ?_)
          · rw [if_pos h22] at e
            refine mm_T.seg (f' := (71, [some (.int x0)], [(.int 1)])) (h' := (107, I, J, mm_rf rv sp rr w nw)) 2 rfl ?_
            cases e
            exact mm_T.ret rfl ⟨rfl, rfl⟩
          · rw [if_neg h22] at e
            refine mm_T.seg (f' := (33, [some (.int x0)], [(.int 61), (.int x0)])) (h' := (107, I, J, mm_rf rv sp rr w nw)) 2 rfl ?_
            refine mm_T.br (c := x0 = 61) (a := ((66, [some (.int x0)], []), (107, I, J, mm_rf rv sp rr w nw))) (b := ((36, [some (.int x0)], []), (107, I, J, mm_rf rv sp rr w nw))) rfl (fun h23 => ?_) (fun h23 => ?_)
            · rw [if_pos h23] at e
              refine mm_T.seg (f' := (71, [some (.int x0)], [(.int 1)])) (h' := (107, I, J, mm_rf rv sp rr w nw)) 2 rfl ?_
              cases e
              exact mm_T.ret rfl ⟨rfl, rfl⟩
            · rw [if_neg h23] at e
              refine mm_T.seg (f' := (39, [some (.int x0)], [(.int 43), (.int x0)])) (h' := (107, I, J, mm_rf rv sp rr w nw)) 2 rfl ?_
              refine mm_T.br (c := x0 = 43) (a := ((66, [some (.int x0)], []), (107, I, J, mm_rf rv sp rr w nw))) (b := ((42, [some (.int x0)], []), (107, I, J, mm_rf rv sp rr w nw))) rfl (fun h24 => ?_) (fun h24 => ?_)
              · rw [if_pos h24] at e
                refine mm_T.seg (f' := (71, [some (.int x0)], [(.int 1)])) (h' := (107, I, J, mm_rf rv sp rr w nw)) 2 rfl ?_
                cases e
                exact mm_T.ret rfl ⟨rfl, rfl⟩
              · rw [if_neg h24] at e
                refine mm_T.seg (f' := (45, [some (.int x0)], [(.int 45), (.int x0)])) (h' := (107, I, J, mm_rf rv sp rr w nw)) 2 rfl ?_
                refine mm_T.br (c := x0 = 45) (a := ((66, [some (.int x0)], []), (107, I, J, mm_rf rv sp rr w nw))) (b := ((48, [some (.int x0)], []), (107, I, J, mm_rf rv sp rr w nw))) rfl (fun h25 => ?_) (fun h25 => ?_)
                · rw [if_pos h25] at e
                  refine mm_T.seg (f' := (71, [some (.int x0)], [(.int 1)])) (h' := (107, I, J, mm_rf rv sp rr w nw)) 2 rfl ?_
                  cases e
                  exact mm_T.ret rfl ⟨rfl, rfl⟩
                · rw [if_neg h25] at e
                  refine mm_T.seg (f' := (51, [some (.int x0)], [(.int 42), (.int x0)])) (h' := (107, I, J, mm_rf rv sp rr w nw)) 2 rfl ?_
                  refine mm_T.br (c := x0 = 42) (a := ((66, [some (.int x0)], []), (107, I, J, mm_rf rv sp rr w nw))) (b := ((54, [some (.int x0)], []), (107, I, J, mm_rf rv sp rr w nw))) rfl (fun h26 => ?_) (fun h26 => ?_)
                  · rw [if_pos h26] at e
                    refine mm_T.seg (f' := (71, [some (.int x0)], [(.int 1)])) (h' := (107, I, J, mm_rf rv sp rr w nw)) 2 rfl ?_
                    cases e
                    exact mm_T.ret rfl ⟨rfl, rfl⟩
                  · rw [if_neg h26] at e
                    refine mm_T.seg (f' := (57, [some (.int x0)], [(.int 47), (.int x0)])) (h' := (107, I, J, mm_rf rv sp rr w nw)) 2 rfl ?_
                    refine mm_T.br (c := x0 = 47) (a := ((66, [some (.int x0)], []), (107, I, J, mm_rf rv sp rr w nw))) (b := ((60, [some (.int x0)], []), (107, I, J, mm_rf rv sp rr w nw))) rfl (fun h27 => ?_) (fun h27 => ?_)
                    · rw [if_pos h27] at e
                      refine mm_T.seg (f' := (71, [some (.int x0)], [(.int 1)])) (h' := (107, I, J, mm_rf rv sp rr w nw)) 2 rfl ?_
                      cases e
                      exact mm_T.ret rfl ⟨rfl, rfl⟩
                    · rw [if_neg h27] at e
                      refine mm_T.seg (f' := (63, [some (.int x0)], [(.int 37), (.int x0)])) (h' := (107, I, J, mm_rf rv sp rr w nw)) 2 rfl ?_
                      refine mm_T.br (c := x0 = 37) (a := ((66, [some (.int x0)], []), (107, I, J, mm_rf rv sp rr w nw))) (b := ((70, [some (.int x0)], []), (107, I, J, mm_rf rv sp rr w nw))) rfl (fun h28 => ?_) (fun h28 => ?_)
                      · rw [if_pos h28] at e
                        refine mm_T.seg (f' := (71, [some (.int x0)], [(.int 1)])) (h' := (107, I, J, mm_rf rv sp rr w nw)) 2 rfl ?_
                        cases e
                        exact mm_T.ret rfl ⟨rfl, rfl⟩
                      · rw [if_neg h28] at e
                        refine mm_T.seg (f' := (71, [some (.int x0)], [(.int 0)])) (h' := (107, I, J, mm_rf rv sp rr w nw)) 1 rfl ?_
                        cases e
                        exact mm_T.ret rfl ⟨rfl, rfl⟩
set_option maxRecDepth 100000 in
set_option maxHeartbeats 4000000 in
theorem tlX12_token_L0 (d : Nat) (Q : Option Value → mm_H → Prop) : ∀ (n : Nat) (I : Nat → Nat → Int32) (J : Nat → Nat → Int64) (rv sp rr w nw : Nat), ∀ (out : (Nat → Nat → Int32)), fX12_token_L0 n I = some out → mm_T none (d + 1) 214 (33, [some (.ref 62), none, none], []) (107, out, J, mm_rf rv sp rr w nw) Q → mm_T none (d + 1) 214 (0, [some (.ref 62), none, none], []) (107, I, J, mm_rf rv sp rr w nw) Q := by
  intro n
  induction n with
  | zero =>
    intro I J rv sp rr w nw out e k
    rw [fX12_token_L0] at e; cases e
  | succ n ih =>
    intro I J rv sp rr w nw out e k
    rw [fX12_token_L0] at e
    refine mm_T.seg (f' := (2, [some (.ref 62), none, none], [(.int 0), (.ref 62)])) (h' := (107, I, J, mm_rf rv sp rr w nw)) 2 rfl ?_
    obtain ⟨o29, eo29, e⟩ := mm_bind e
    refine mm_T.call (t := 210) (as := [(.ref 62), (.int 0)]) (f' := (5, [some (.ref 62), none, none], [])) rfl (tX12_here (d + 0) 0 I J rv sp rr w nw o29 eo29) (fun v h hq => ?_)
    obtain ⟨rfl, rfl⟩ := hq
    refine mm_T.seg (f' := (7, [some (.ref 62), none, none], [(.int 32), (.int o29)])) (h' := (107, I, J, mm_rf rv sp rr w nw)) 1 rfl ?_
    refine mm_T.br (c := o29 = 32) (a := ((20, [some (.ref 62), none, none], []), (107, I, J, mm_rf rv sp rr w nw))) (b := ((10, [some (.ref 62), none, none], []), (107, I, J, mm_rf rv sp rr w nw))) rfl (fun h30 => ?_) (fun h30 => ?_)
    · rw [if_pos h30] at e
      refine mm_T.seg (f' := (0, [some (.ref 62), none, none], [])) (h' := (107, (mm_up I 62 4 ((I 62 4) + 1)), J, mm_rf rv sp rr w nw)) 7 rfl ?_
      refine mm_T.mask [true, false, false] ?_
      exact ih (mm_up I 62 4 ((I 62 4) + 1)) J rv sp rr w nw out e k
    · rw [if_neg h30] at e
      refine mm_T.seg (f' := (12, [some (.ref 62), none, none], [(.int 0), (.ref 62)])) (h' := (107, I, J, mm_rf rv sp rr w nw)) 2 rfl ?_
      obtain ⟨o31, eo31, e⟩ := mm_bind e
      refine mm_T.call (t := 210) (as := [(.ref 62), (.int 0)]) (f' := (15, [some (.ref 62), none, none], [])) rfl (tX12_here (d + 0) 0 I J rv sp rr w nw o31 eo31) (fun v h hq => ?_)
      obtain ⟨rfl, rfl⟩ := hq
      refine mm_T.seg (f' := (17, [some (.ref 62), none, none], [(.int 10), (.int o31)])) (h' := (107, I, J, mm_rf rv sp rr w nw)) 1 rfl ?_
      refine mm_T.br (c := o31 = 10) (a := ((20, [some (.ref 62), none, none], []), (107, I, J, mm_rf rv sp rr w nw))) (b := ((33, [some (.ref 62), none, none], []), (107, I, J, mm_rf rv sp rr w nw))) rfl (fun h32 => ?_) (fun h32 => ?_)
      · rw [if_pos h32] at e
        refine mm_T.seg (f' := (0, [some (.ref 62), none, none], [])) (h' := (107, (mm_up I 62 4 ((I 62 4) + 1)), J, mm_rf rv sp rr w nw)) 7 rfl ?_
        refine mm_T.mask [true, false, false] ?_
        exact ih (mm_up I 62 4 ((I 62 4) + 1)) J rv sp rr w nw out e k
      · rw [if_neg h32] at e
        cases e
        refine mm_T.mask [true, false, false] ?_
        exact k
set_option maxRecDepth 100000 in
set_option maxHeartbeats 4000000 in
theorem tlX12_token_L144 (d : Nat) (Q : Option Value → mm_H → Prop) : ∀ (n : Nat) (y2 : Int32) (I : Nat → Nat → Int32) (J : Nat → Nat → Int64) (rv sp rr w nw : Nat), ∀ (out : Int32 × (Nat → Nat → Int32)), fX12_token_L144 n y2 I = some out → mm_T none (d + 1) 214 (186, [some (.ref 62), none, some (.int out.1)], []) (107, out.2, J, mm_rf rv sp rr w nw) Q → mm_T none (d + 1) 214 (144, [some (.ref 62), none, some (.int y2)], []) (107, I, J, mm_rf rv sp rr w nw) Q := by
  intro n
  induction n with
  | zero =>
    intro y2 I J rv sp rr w nw out e k
    rw [fX12_token_L144] at e; cases e
  | succ n ih =>
    intro y2 I J rv sp rr w nw out e k
    rw [fX12_token_L144] at e
    refine mm_T.seg (f' := (146, [some (.ref 62), none, some (.int y2)], [(.int y2), (.ref 62)])) (h' := (107, I, J, mm_rf rv sp rr w nw)) 2 rfl ?_
    obtain ⟨o40, eo40, e⟩ := mm_bind e
    refine mm_T.call (t := 210) (as := [(.ref 62), (.int y2)]) (f' := (149, [some (.ref 62), none, some (.int y2)], [])) rfl (tX12_here (d + 0) y2 I J rv sp rr w nw o40 eo40) (fun v h hq => ?_)
    obtain ⟨rfl, rfl⟩ := hq
    obtain ⟨g4, hg4⟩ : ∃ z, fX12_isDigit o40 = z := ⟨_, rfl⟩
    try rw [hg4] at e
    refine mm_T.call (t := 212) (as := [(.int o40)]) (f' := (152, [some (.ref 62), none, some (.int y2)], [])) rfl (tX12_isDigit (d + 0) o40 I J rv sp rr w nw g4 hg4) (fun v h hq => ?_)
    obtain ⟨rfl, rfl⟩ := hq
    refine mm_T.br (c := g4 = 0) (a := ((186, [some (.ref 62), none, some (.int y2)], []), (107, I, J, mm_rf rv sp rr w nw))) (b := ((155, [some (.ref 62), none, some (.int y2)], []), (107, I, J, mm_rf rv sp rr w nw))) rfl (fun h41 => ?_) (fun h41 => ?_)
    · rw [if_pos h41] at e
      cases e
      refine mm_T.mask [true, false, true] ?_
      exact k
    · rw [if_neg h41] at e
      refine mm_T.seg (f' := (157, [some (.ref 62), none, some (.int y2)], [(.int 4), (.int y2)])) (h' := (107, I, J, mm_rf rv sp rr w nw)) 2 rfl ?_
      refine mm_T.br (c := y2 < 4) (a := ((160, [some (.ref 62), none, some (.int y2)], []), (107, I, J, mm_rf rv sp rr w nw))) (b := ((180, [some (.ref 62), none, some (.int y2)], []), (107, I, J, mm_rf rv sp rr w nw))) rfl (fun h42 => ?_) (fun h42 => ?_)
      · rw [if_pos h42] at e
        refine mm_T.seg (f' := (170, [some (.ref 62), none, some (.int y2)], [(.int y2), (.ref 62), (.int (10 * (I 62 8))), (.ref 62)])) (h' := (107, I, J, mm_rf rv sp rr w nw)) 7 rfl ?_
        obtain ⟨o43, eo43, e⟩ := mm_bind e
        refine mm_T.call (t := 210) (as := [(.ref 62), (.int y2)]) (f' := (173, [some (.ref 62), none, some (.int y2)], [(.int (10 * (I 62 8))), (.ref 62)])) rfl (tX12_here (d + 0) y2 I J rv sp rr w nw o43 eo43) (fun v h hq => ?_)
        obtain ⟨rfl, rfl⟩ := hq
        refine mm_T.seg (f' := (144, [some (.ref 62), none, some (.int (y2 + 1))], [])) (h' := (107, (mm_up I 62 8 (((10 * (I 62 8)) + o43) - 48)), J, mm_rf rv sp rr w nw)) 6 rfl ?_
        refine mm_T.mask [true, false, true] ?_
        exact ih (y2 + 1) (mm_up I 62 8 (((10 * (I 62 8)) + o43) - 48)) J rv sp rr w nw out e k
      · rw [if_neg h42] at e
        refine mm_T.seg (f' := (144, [some (.ref 62), none, some (.int (y2 + 1))], [])) (h' := (107, I, J, mm_rf rv sp rr w nw)) 2 rfl ?_
        refine mm_T.mask [true, false, true] ?_
        exact ih (y2 + 1) I J rv sp rr w nw out e k
set_option maxRecDepth 100000 in
set_option maxHeartbeats 4000000 in
theorem tlX12_token_L78 (d : Nat) (Q : Option Value → mm_H → Prop) : ∀ (n : Nat) (y2 : Int32) (I : Nat → Nat → Int32) (J : Nat → Nat → Int64) (rv sp rr w nw : Nat), ∀ (out : Int32 × (Nat → Nat → Int64)), fX12_token_L78 n y2 I J = some out → mm_T none (d + 1) 214 (119, [some (.ref 62), none, some (.int out.1)], []) (107, I, out.2, mm_rf rv sp rr w nw) Q → mm_T none (d + 1) 214 (78, [some (.ref 62), none, some (.int y2)], []) (107, I, J, mm_rf rv sp rr w nw) Q := by
  intro n
  induction n with
  | zero =>
    intro y2 I J rv sp rr w nw out e k
    rw [fX12_token_L78] at e; cases e
  | succ n ih =>
    intro y2 I J rv sp rr w nw out e k
    rw [fX12_token_L78] at e
    refine mm_T.seg (f' := (80, [some (.ref 62), none, some (.int y2)], [(.int y2), (.ref 62)])) (h' := (107, I, J, mm_rf rv sp rr w nw)) 2 rfl ?_
    obtain ⟨o52, eo52, e⟩ := mm_bind e
    refine mm_T.call (t := 210) (as := [(.ref 62), (.int y2)]) (f' := (83, [some (.ref 62), none, some (.int y2)], [])) rfl (tX12_here (d + 0) y2 I J rv sp rr w nw o52 eo52) (fun v h hq => ?_)
    obtain ⟨rfl, rfl⟩ := hq
    obtain ⟨g7, hg7⟩ : ∃ z, fX12_isLetter o52 = z := ⟨_, rfl⟩
    try rw [hg7] at e
    refine mm_T.call (t := 211) (as := [(.int o52)]) (f' := (86, [some (.ref 62), none, some (.int y2)], [])) rfl (tX12_isLetter (d + 0) o52 I J rv sp rr w nw g7 hg7) (fun v h hq => ?_)
    obtain ⟨rfl, rfl⟩ := hq
    refine mm_T.br (c := g7 = 0) (a := ((119, [some (.ref 62), none, some (.int y2)], []), (107, I, J, mm_rf rv sp rr w nw))) (b := ((89, [some (.ref 62), none, some (.int y2)], []), (107, I, J, mm_rf rv sp rr w nw))) rfl (fun h53 => ?_) (fun h53 => ?_)
    · rw [if_pos h53] at e
      cases e
      refine mm_T.mask [true, false, true] ?_
      exact k
    · rw [if_neg h53] at e
      refine mm_T.seg (f' := (92, [some (.ref 62), none, some (.int y2)], [(.int 8), (.int y2)])) (h' := (107, I, J, mm_rf rv sp rr w nw)) 2 rfl ?_
      refine mm_T.br (c := y2 < 8) (a := ((95, [some (.ref 62), none, some (.int y2)], []), (107, I, J, mm_rf rv sp rr w nw))) (b := ((113, [some (.ref 62), none, some (.int y2)], []), (107, I, J, mm_rf rv sp rr w nw))) rfl (fun h54 => ?_) (fun h54 => ?_)
      · rw [if_pos h54] at e
        refine mm_T.seg (f' := (105, [some (.ref 62), none, some (.int y2)], [(.int y2), (.ref 62), (.long ((J 62 9) <<< ((8 : Int32).toInt64 &&& 63))), (.ref 62)])) (h' := (107, I, J, mm_rf rv sp rr w nw)) 7 rfl ?_
        obtain ⟨o55, eo55, e⟩ := mm_bind e
        refine mm_T.call (t := 210) (as := [(.ref 62), (.int y2)]) (f' := (108, [some (.ref 62), none, some (.int y2)], [(.long ((J 62 9) <<< ((8 : Int32).toInt64 &&& 63))), (.ref 62)])) rfl (tX12_here (d + 0) y2 I J rv sp rr w nw o55 eo55) (fun v h hq => ?_)
        obtain ⟨rfl, rfl⟩ := hq
        refine mm_T.seg (f' := (78, [some (.ref 62), none, some (.int (y2 + 1))], [])) (h' := (107, I, (mm_up J 62 9 (((J 62 9) <<< ((8 : Int32).toInt64 &&& 63)) ||| o55.toInt64)), mm_rf rv sp rr w nw)) 5 rfl ?_
        refine mm_T.mask [true, false, true] ?_
        exact ih (y2 + 1) I (mm_up J 62 9 (((J 62 9) <<< ((8 : Int32).toInt64 &&& 63)) ||| o55.toInt64)) rv sp rr w nw out e k
      · rw [if_neg h54] at e
        refine mm_T.seg (f' := (78, [some (.ref 62), none, some (.int (y2 + 1))], [])) (h' := (107, I, J, mm_rf rv sp rr w nw)) 2 rfl ?_
        refine mm_T.mask [true, false, true] ?_
        exact ih (y2 + 1) I J rv sp rr w nw out e k
set_option maxRecDepth 100000 in
set_option maxHeartbeats 4000000 in
theorem tbX12_token_J232 (d : Nat) (y2 : Int32) (I : Nat → Nat → Int32) (J : Nat → Nat → Int64) (rv sp rr w nw : Nat) (out : (Nat → Nat → Int32) × (Nat → Nat → Int64)) (e : fX12_token_J232 y2 I J = some out) : mm_T none (d + 1) 214 (232, [some (.ref 62), none, some (.int y2)], []) (107, I, J, mm_rf rv sp rr w nw) (fun v h => v = none ∧ h = (107, out.1, out.2, mm_rf rv sp rr w nw)) := by
  unfold fX12_token_J232 at e
  refine mm_T.seg (f' := (237, [some (.ref 62), none, some (.int y2)], [(.int 3), (.int (I 62 6))])) (h' := (107, I, J, mm_rf rv sp rr w nw)) 3 rfl ?_
  refine mm_T.br (c := (I 62 6) = 3) (a := ((250, [some (.ref 62), none, some (.int y2)], []), (107, I, J, mm_rf rv sp rr w nw))) (b := ((240, [some (.ref 62), none, some (.int y2)], []), (107, I, J, mm_rf rv sp rr w nw))) rfl (fun h36 => ?_) (fun h36 => ?_)
  · rw [if_pos h36] at e
    cases e
    exact mm_T.ret rfl ⟨rfl, rfl⟩
  · rw [if_neg h36] at e
    refine mm_T.seg (f' := (250, [some (.ref 62), none, some (.int y2)], [])) (h' := (107, (mm_up I 62 4 ((I 62 4) + y2)), J, mm_rf rv sp rr w nw)) 6 rfl ?_
    cases e
    exact mm_T.ret rfl ⟨rfl, rfl⟩
set_option maxRecDepth 100000 in
set_option maxHeartbeats 4000000 in
theorem tbX12_token_J229 (d : Nat) (y2 : Int32) (u0 : Int32) (I : Nat → Nat → Int32) (J : Nat → Nat → Int64) (rv sp rr w nw : Nat) (out : (Nat → Nat → Int32) × (Nat → Nat → Int64)) (e : fX12_token_J229 y2 u0 I J = some out) : mm_T none (d + 1) 214 (229, [some (.ref 62), none, some (.int y2)], [(.int u0), (.ref 62)]) (107, I, J, mm_rf rv sp rr w nw) (fun v h => v = none ∧ h = (107, out.1, out.2, mm_rf rv sp rr w nw)) := by
  unfold fX12_token_J229 at e
  refine mm_T.seg (f' := (232, [some (.ref 62), none, some (.int y2)], [])) (h' := (107, (mm_up I 62 6 u0), J, mm_rf rv sp rr w nw)) 1 rfl ?_
  refine mm_T.mask [true, false, true] ?_
  exact tbX12_token_J232 d y2 (mm_up I 62 6 u0) J rv sp rr w nw out e
set_option maxRecDepth 100000 in
set_option maxHeartbeats 4000000 in
theorem tbX12_token_J208 (d : Nat) (y2 : Int32) (u0 : Int32) (I : Nat → Nat → Int32) (J : Nat → Nat → Int64) (rv sp rr w nw : Nat) (out : (Nat → Nat → Int32) × (Nat → Nat → Int64)) (e : fX12_token_J208 y2 u0 I J = some out) : mm_T none (d + 1) 214 (208, [some (.ref 62), none, some (.int y2)], [(.int u0), (.ref 62)]) (107, I, J, mm_rf rv sp rr w nw) (fun v h => v = none ∧ h = (107, out.1, out.2, mm_rf rv sp rr w nw)) := by
  unfold fX12_token_J208 at e
  refine mm_T.seg (f' := (232, [some (.ref 62), none, some (.int y2)], [])) (h' := (107, (mm_up I 62 6 u0), J, mm_rf rv sp rr w nw)) 2 rfl ?_
  refine mm_T.mask [true, false, true] ?_
  exact tbX12_token_J232 d y2 (mm_up I 62 6 u0) J rv sp rr w nw out e
set_option maxRecDepth 100000 in
set_option maxHeartbeats 4000000 in
theorem tbX12_token_J203 (d : Nat) (y2 : Int32) (I : Nat → Nat → Int32) (J : Nat → Nat → Int64) (rv sp rr w nw : Nat) (out : (Nat → Nat → Int32) × (Nat → Nat → Int64)) (e : fX12_token_J203 y2 I J = some out) : mm_T none (d + 1) 214 (203, [some (.ref 62), none, some (.int y2)], [(.ref 62)]) (107, I, J, mm_rf rv sp rr w nw) (fun v h => v = none ∧ h = (107, out.1, out.2, mm_rf rv sp rr w nw)) := by
  unfold fX12_token_J203 at e
  refine mm_T.seg (f' := (208, [some (.ref 62), none, some (.int y2)], [(.int 3), (.ref 62)])) (h' := (107, I, J, mm_rf rv sp rr w nw)) 2 rfl ?_
  refine mm_T.mask [true, false, true] ?_
  exact tbX12_token_J208 d y2 3 I J rv sp rr w nw out e
set_option maxRecDepth 100000 in
set_option maxHeartbeats 4000000 in
theorem tbX12_token_J131 (d : Nat) (y2 : Int32) (u0 : Int32) (I : Nat → Nat → Int32) (J : Nat → Nat → Int64) (rv sp rr w nw : Nat) (out : (Nat → Nat → Int32) × (Nat → Nat → Int64)) (e : fX12_token_J131 y2 u0 I J = some out) : mm_T none (d + 1) 214 (131, [some (.ref 62), none, some (.int y2)], [(.int u0), (.ref 62)]) (107, I, J, mm_rf rv sp rr w nw) (fun v h => v = none ∧ h = (107, out.1, out.2, mm_rf rv sp rr w nw)) := by
  unfold fX12_token_J131 at e
  refine mm_T.seg (f' := (232, [some (.ref 62), none, some (.int y2)], [])) (h' := (107, (mm_up I 62 6 u0), J, mm_rf rv sp rr w nw)) 2 rfl ?_
  refine mm_T.mask [true, false, true] ?_
  exact tbX12_token_J232 d y2 (mm_up I 62 6 u0) J rv sp rr w nw out e
set_option maxRecDepth 100000 in
set_option maxHeartbeats 4000000 in
theorem tX12_token (d n : Nat) (I : Nat → Nat → Int32) (J : Nat → Nat → Int64) (rv sp rr w nw : Nat) (out : (Nat → Nat → Int32) × (Nat → Nat → Int64)) (e : fX12_token n I J = some out) : mm_T none (d + 1) 214 (mm_ent 214 [(.ref 62)]) (107, I, J, mm_rf rv sp rr w nw) (fun v h => v = none ∧ h = (107, out.1, out.2, mm_rf rv sp rr w nw)) := by
  unfold fX12_token at e
  refine mm_T.mask [true, false, false] ?_
  obtain ⟨o33, eo33, e⟩ := mm_bind e
  refine tlX12_token_L0 d _ n I J rv sp rr w nw o33 eo33 ?_
  refine mm_T.seg (f' := (43, [some (.ref 62), none, none], [(.int 0), (.ref 62)])) (h' := (107, (mm_up o33 62 7 (o33 62 4)), J, mm_rf rv sp rr w nw)) 6 rfl ?_
  obtain ⟨o34, eo34, e⟩ := mm_bind e
  refine mm_T.call (t := 210) (as := [(.ref 62), (.int 0)]) (f' := (46, [some (.ref 62), none, none], [])) rfl (tX12_here (d + 0) 0 (mm_up o33 62 7 (o33 62 4)) J rv sp rr w nw o34 eo34) (fun v h hq => ?_)
  obtain ⟨rfl, rfl⟩ := hq
  refine mm_T.seg (f' := (60, [some (.ref 62), some (.int o34), some (.int 0)], [(.int o34)])) (h' := (107, (mm_up (mm_up o33 62 7 (o33 62 4)) 62 8 0), (mm_up J 62 9 0), mm_rf rv sp rr w nw)) 10 rfl ?_
  refine mm_T.br (c := o34 < 0) (a := ((63, [some (.ref 62), some (.int o34), some (.int 0)], []), (107, (mm_up (mm_up o33 62 7 (o33 62 4)) 62 8 0), (mm_up J 62 9 0), mm_rf rv sp rr w nw))) (b := ((71, [some (.ref 62), some (.int o34), some (.int 0)], []), (107, (mm_up (mm_up o33 62 7 (o33 62 4)) 62 8 0), (mm_up J 62 9 0), mm_rf rv sp rr w nw))) rfl (fun h35 => ?_) (fun h35 => ?_)
  · rw [if_pos h35] at e
    refine mm_T.seg (f' := (232, [some (.ref 62), some (.int o34), some (.int 0)], [])) (h' := (107, (mm_up (mm_up (mm_up o33 62 7 (o33 62 4)) 62 8 0) 62 6 0), (mm_up J 62 9 0), mm_rf rv sp rr w nw)) 4 rfl ?_
    refine mm_T.mask [true, false, true] ?_
    exact tbX12_token_J232 d 0 (mm_up (mm_up (mm_up o33 62 7 (o33 62 4)) 62 8 0) 62 6 0) (mm_up J 62 9 0) rv sp rr w nw out e
  · rw [if_neg h35] at e
    refine mm_T.seg (f' := (72, [some (.ref 62), some (.int o34), some (.int 0)], [(.int o34)])) (h' := (107, (mm_up (mm_up o33 62 7 (o33 62 4)) 62 8 0), (mm_up J 62 9 0), mm_rf rv sp rr w nw)) 1 rfl ?_
    obtain ⟨g1, hg1⟩ : ∃ z, fX12_isLetter o34 = z := ⟨_, rfl⟩
    try rw [hg1] at e
    refine mm_T.call (t := 211) (as := [(.int o34)]) (f' := (75, [some (.ref 62), some (.int o34), some (.int 0)], [])) rfl (tX12_isLetter (d + 0) o34 (mm_up (mm_up o33 62 7 (o33 62 4)) 62 8 0) (mm_up J 62 9 0) rv sp rr w nw g1 hg1) (fun v h hq => ?_)
    obtain ⟨rfl, rfl⟩ := hq
    refine mm_T.br (c := g1 = 0) (a := ((137, [some (.ref 62), some (.int o34), some (.int 0)], []), (107, (mm_up (mm_up o33 62 7 (o33 62 4)) 62 8 0), (mm_up J 62 9 0), mm_rf rv sp rr w nw))) (b := ((78, [some (.ref 62), some (.int o34), some (.int 0)], []), (107, (mm_up (mm_up o33 62 7 (o33 62 4)) 62 8 0), (mm_up J 62 9 0), mm_rf rv sp rr w nw))) rfl (fun h37 => ?_) (fun h37 => ?_)
    · rw [if_pos h37] at e
      refine mm_T.seg (f' := (138, [some (.ref 62), some (.int o34), some (.int 0)], [(.int o34)])) (h' := (107, (mm_up (mm_up o33 62 7 (o33 62 4)) 62 8 0), (mm_up J 62 9 0), mm_rf rv sp rr w nw)) 1 rfl ?_
      obtain ⟨g2, hg2⟩ : ∃ z, fX12_isDigit o34 = z := ⟨_, rfl⟩
      try rw [hg2] at e
      refine mm_T.call (t := 212) (as := [(.int o34)]) (f' := (141, [some (.ref 62), some (.int o34), some (.int 0)], [])) rfl (tX12_isDigit (d + 0) o34 (mm_up (mm_up o33 62 7 (o33 62 4)) 62 8 0) (mm_up J 62 9 0) rv sp rr w nw g2 hg2) (fun v h hq => ?_)
      obtain ⟨rfl, rfl⟩ := hq
      refine mm_T.br (c := g2 = 0) (a := ((214, [some (.ref 62), some (.int o34), some (.int 0)], []), (107, (mm_up (mm_up o33 62 7 (o33 62 4)) 62 8 0), (mm_up J 62 9 0), mm_rf rv sp rr w nw))) (b := ((144, [some (.ref 62), some (.int o34), some (.int 0)], []), (107, (mm_up (mm_up o33 62 7 (o33 62 4)) 62 8 0), (mm_up J 62 9 0), mm_rf rv sp rr w nw))) rfl (fun h38 => ?_) (fun h38 => ?_)
      · rw [if_pos h38] at e
        refine mm_T.seg (f' := (218, [some (.ref 62), some (.int o34), some (.int 1)], [(.int o34), (.ref 62)])) (h' := (107, (mm_up (mm_up o33 62 7 (o33 62 4)) 62 8 0), (mm_up J 62 9 0), mm_rf rv sp rr w nw)) 4 rfl ?_
        obtain ⟨g3, hg3⟩ : ∃ z, fX12_isSign o34 = z := ⟨_, rfl⟩
        try rw [hg3] at e
        refine mm_T.call (t := 213) (as := [(.int o34)]) (f' := (221, [some (.ref 62), some (.int o34), some (.int 1)], [(.ref 62)])) rfl (tX12_isSign (d + 0) o34 (mm_up (mm_up o33 62 7 (o33 62 4)) 62 8 0) (mm_up J 62 9 0) rv sp rr w nw g3 hg3) (fun v h hq => ?_)
        obtain ⟨rfl, rfl⟩ := hq
        refine mm_T.br (c := g3 = 0) (a := ((228, [some (.ref 62), some (.int o34), some (.int 1)], [(.ref 62)]), (107, (mm_up (mm_up o33 62 7 (o33 62 4)) 62 8 0), (mm_up J 62 9 0), mm_rf rv sp rr w nw))) (b := ((224, [some (.ref 62), some (.int o34), some (.int 1)], [(.ref 62)]), (107, (mm_up (mm_up o33 62 7 (o33 62 4)) 62 8 0), (mm_up J 62 9 0), mm_rf rv sp rr w nw))) rfl (fun h39 => ?_) (fun h39 => ?_)
        · rw [if_pos h39] at e
          refine mm_T.seg (f' := (229, [some (.ref 62), some (.int o34), some (.int 1)], [(.int 3), (.ref 62)])) (h' := (107, (mm_up (mm_up o33 62 7 (o33 62 4)) 62 8 0), (mm_up J 62 9 0), mm_rf rv sp rr w nw)) 1 rfl ?_
          refine mm_T.mask [true, false, true] ?_
          exact tbX12_token_J229 d 1 3 (mm_up (mm_up o33 62 7 (o33 62 4)) 62 8 0) (mm_up J 62 9 0) rv sp rr w nw out e
        · rw [if_neg h39] at e
          refine mm_T.seg (f' := (229, [some (.ref 62), some (.int o34), some (.int 1)], [(.int o34), (.ref 62)])) (h' := (107, (mm_up (mm_up o33 62 7 (o33 62 4)) 62 8 0), (mm_up J 62 9 0), mm_rf rv sp rr w nw)) 2 rfl ?_
          refine mm_T.mask [true, false, true] ?_
          exact tbX12_token_J229 d 1 o34 (mm_up (mm_up o33 62 7 (o33 62 4)) 62 8 0) (mm_up J 62 9 0) rv sp rr w nw out e
      · rw [if_neg h38] at e
        refine mm_T.mask [true, false, true] ?_
        obtain ⟨o44, eo44, e⟩ := mm_bind e
        refine tlX12_token_L144 d _ n 0 (mm_up (mm_up o33 62 7 (o33 62 4)) 62 8 0) (mm_up J 62 9 0) rv sp rr w nw o44 eo44 ?_
        refine mm_T.seg (f' := (189, [some (.ref 62), none, some (.int o44.1)], [(.int 4), (.int o44.1), (.ref 62)])) (h' := (107, o44.2, (mm_up J 62 9 0), mm_rf rv sp rr w nw)) 3 rfl ?_
        refine mm_T.br (c := 4 < o44.1) (a := ((203, [some (.ref 62), none, some (.int o44.1)], [(.ref 62)]), (107, o44.2, (mm_up J 62 9 0), mm_rf rv sp rr w nw))) (b := ((192, [some (.ref 62), none, some (.int o44.1)], [(.ref 62)]), (107, o44.2, (mm_up J 62 9 0), mm_rf rv sp rr w nw))) rfl (fun h45 => ?_) (fun h45 => ?_)
        · rw [if_pos h45] at e
          refine mm_T.mask [true, false, true] ?_
          exact tbX12_token_J203 d o44.1 o44.2 (mm_up J 62 9 0) rv sp rr w nw out e
        · rw [if_neg h45] at e
          refine mm_T.seg (f' := (194, [some (.ref 62), none, some (.int o44.1)], [(.int o44.1), (.ref 62), (.ref 62)])) (h' := (107, o44.2, (mm_up J 62 9 0), mm_rf rv sp rr w nw)) 2 rfl ?_
          obtain ⟨o46, eo46, e⟩ := mm_bind e
          refine mm_T.call (t := 210) (as := [(.ref 62), (.int o44.1)]) (f' := (197, [some (.ref 62), none, some (.int o44.1)], [(.ref 62)])) rfl (tX12_here (d + 0) o44.1 o44.2 (mm_up J 62 9 0) rv sp rr w nw o46 eo46) (fun v h hq => ?_)
          obtain ⟨rfl, rfl⟩ := hq
          obtain ⟨g5, hg5⟩ : ∃ z, fX12_isLetter o46 = z := ⟨_, rfl⟩
          try rw [hg5] at e
          refine mm_T.call (t := 211) (as := [(.int o46)]) (f' := (200, [some (.ref 62), none, some (.int o44.1)], [(.ref 62)])) rfl (tX12_isLetter (d + 0) o46 o44.2 (mm_up J 62 9 0) rv sp rr w nw g5 hg5) (fun v h hq => ?_)
          obtain ⟨rfl, rfl⟩ := hq
          refine mm_T.br (c := g5 = 0) (a := ((207, [some (.ref 62), none, some (.int o44.1)], [(.ref 62)]), (107, o44.2, (mm_up J 62 9 0), mm_rf rv sp rr w nw))) (b := ((203, [some (.ref 62), none, some (.int o44.1)], [(.ref 62)]), (107, o44.2, (mm_up J 62 9 0), mm_rf rv sp rr w nw))) rfl (fun h47 => ?_) (fun h47 => ?_)
          · rw [if_pos h47] at e
            refine mm_T.seg (f' := (208, [some (.ref 62), none, some (.int o44.1)], [(.int 2), (.ref 62)])) (h' := (107, o44.2, (mm_up J 62 9 0), mm_rf rv sp rr w nw)) 1 rfl ?_
            refine mm_T.mask [true, false, true] ?_
            exact tbX12_token_J208 d o44.1 2 o44.2 (mm_up J 62 9 0) rv sp rr w nw out e
          · rw [if_neg h47] at e
            refine mm_T.mask [true, false, true] ?_
            exact tbX12_token_J203 d o44.1 o44.2 (mm_up J 62 9 0) rv sp rr w nw out e
    · rw [if_neg h37] at e
      refine mm_T.mask [true, false, true] ?_
      obtain ⟨o56, eo56, e⟩ := mm_bind e
      refine tlX12_token_L78 d _ n 0 (mm_up (mm_up o33 62 7 (o33 62 4)) 62 8 0) (mm_up J 62 9 0) rv sp rr w nw o56 eo56 ?_
      refine mm_T.seg (f' := (123, [some (.ref 62), none, some (.int o56.1)], [(.int 8), (.int o56.1), (.ref 62)])) (h' := (107, (mm_up (mm_up o33 62 7 (o33 62 4)) 62 8 0), o56.2, mm_rf rv sp rr w nw)) 3 rfl ?_
      refine mm_T.br (c := 8 < o56.1) (a := ((126, [some (.ref 62), none, some (.int o56.1)], [(.ref 62)]), (107, (mm_up (mm_up o33 62 7 (o33 62 4)) 62 8 0), o56.2, mm_rf rv sp rr w nw))) (b := ((130, [some (.ref 62), none, some (.int o56.1)], [(.ref 62)]), (107, (mm_up (mm_up o33 62 7 (o33 62 4)) 62 8 0), o56.2, mm_rf rv sp rr w nw))) rfl (fun h57 => ?_) (fun h57 => ?_)
      · rw [if_pos h57] at e
        refine mm_T.seg (f' := (131, [some (.ref 62), none, some (.int o56.1)], [(.int 3), (.ref 62)])) (h' := (107, (mm_up (mm_up o33 62 7 (o33 62 4)) 62 8 0), o56.2, mm_rf rv sp rr w nw)) 2 rfl ?_
        refine mm_T.mask [true, false, true] ?_
        exact tbX12_token_J131 d o56.1 3 (mm_up (mm_up o33 62 7 (o33 62 4)) 62 8 0) o56.2 rv sp rr w nw out e
      · rw [if_neg h57] at e
        refine mm_T.seg (f' := (131, [some (.ref 62), none, some (.int o56.1)], [(.int 1), (.ref 62)])) (h' := (107, (mm_up (mm_up o33 62 7 (o33 62 4)) 62 8 0), o56.2, mm_rf rv sp rr w nw)) 1 rfl ?_
        refine mm_T.mask [true, false, true] ?_
        exact tbX12_token_J131 d o56.1 1 (mm_up (mm_up o33 62 7 (o33 62 4)) 62 8 0) o56.2 rv sp rr w nw out e
set_option maxRecDepth 100000 in
set_option maxHeartbeats 4000000 in
theorem tX12_wrong (d : Nat) (x1 : Int32) (I : Nat → Nat → Int32) (J : Nat → Nat → Int64) (rv sp rr w nw : Nat) (out : (Nat → Nat → Int32)) (e : fX12_wrong x1 I = out) : mm_T none (d + 0) 215 (mm_ent 215 [(.ref 62), (.int x1)]) (107, I, J, mm_rf rv sp rr w nw) (fun v h => v = none ∧ h = (107, out, J, mm_rf rv sp rr w nw)) := by
  unfold fX12_wrong at e
  refine mm_T.seg (f' := (4, [some (.ref 62), some (.int x1)], [(.int (I 62 2))])) (h' := (107, I, J, mm_rf rv sp rr w nw)) 2 rfl ?_
  refine mm_T.br (c := 0 < (I 62 2)) (a := ((7, [some (.ref 62), some (.int x1)], []), (107, I, J, mm_rf rv sp rr w nw))) (b := ((8, [some (.ref 62), some (.int x1)], []), (107, I, J, mm_rf rv sp rr w nw))) rfl (fun h58 => ?_) (fun h58 => ?_)
  · rw [if_pos h58] at e
    cases e
    exact mm_T.ret rfl ⟨rfl, rfl⟩
  · rw [if_neg h58] at e
    refine mm_T.seg (f' := (14, [some (.ref 62), some (.int x1)], [(.int 3), (.int (I 62 6)), (.ref 62)])) (h' := (107, I, J, mm_rf rv sp rr w nw)) 4 rfl ?_
    refine mm_T.br (c := (I 62 6) = 3) (a := ((17, [some (.ref 62), some (.int x1)], [(.ref 62)]), (107, I, J, mm_rf rv sp rr w nw))) (b := ((21, [some (.ref 62), some (.int x1)], [(.ref 62)]), (107, I, J, mm_rf rv sp rr w nw))) rfl (fun h59 => ?_) (fun h59 => ?_)
    · rw [if_pos h59] at e
      refine mm_T.seg (f' := (33, [some (.ref 62), some (.int x1)], [])) (h' := (107, (mm_up (mm_up I 62 2 1) 62 3 (I 62 7)), J, mm_rf rv sp rr w nw)) 7 rfl ?_
      cases e
      exact mm_T.ret rfl ⟨rfl, rfl⟩
    · rw [if_neg h59] at e
      refine mm_T.seg (f' := (33, [some (.ref 62), some (.int x1)], [])) (h' := (107, (mm_up (mm_up I 62 2 x1) 62 3 (I 62 7)), J, mm_rf rv sp rr w nw)) 6 rfl ?_
      cases e
      exact mm_T.ret rfl ⟨rfl, rfl⟩
set_option maxRecDepth 100000 in
set_option maxHeartbeats 4000000 in
theorem tX12_isWord (d : Nat) (x1 : Int64) (I : Nat → Nat → Int32) (J : Nat → Nat → Int64) (rv sp rr w nw : Nat) (out : Int32) (e : fX12_isWord x1 I J = out) : mm_T none (d + 0) 216 (mm_ent 216 [(.ref 62), (.long x1)]) (107, I, J, mm_rf rv sp rr w nw) (fun v h => v = some (.int out) ∧ h = (107, I, J, mm_rf rv sp rr w nw)) := by
  unfold fX12_isWord at e
  refine mm_T.seg (f' := (5, [some (.ref 62), some (.long x1), none], [(.int 1), (.int (I 62 6))])) (h' := (107, I, J, mm_rf rv sp rr w nw)) 3 rfl ?_
  refine mm_T.br (c := (I 62 6) = 1) (a := ((8, [some (.ref 62), some (.long x1), none], []), (107, I, J, mm_rf rv sp rr w nw))) (b := ((21, [some (.ref 62), some (.long x1), none], []), (107, I, J, mm_rf rv sp rr w nw))) rfl (fun h60 => ?_) (fun h60 => ?_)
  · rw [if_pos h60] at e
    refine mm_T.seg (f' := (14, [some (.ref 62), some (.long x1), none], [(.int (lg_cmp (J 62 9) x1))])) (h' := (107, I, J, mm_rf rv sp rr w nw)) 4 rfl ?_
    refine mm_T.br (c := (lg_cmp (J 62 9) x1) = 0) (a := ((17, [some (.ref 62), some (.long x1), none], []), (107, I, J, mm_rf rv sp rr w nw))) (b := ((21, [some (.ref 62), some (.long x1), none], []), (107, I, J, mm_rf rv sp rr w nw))) rfl (fun h61 => ?_) (fun h61 => ?_)
    · rw [if_pos h61] at e
      refine mm_T.seg (f' := (22, [some (.ref 62), some (.long x1), none], [(.int 1)])) (h' := (107, I, J, mm_rf rv sp rr w nw)) 2 rfl ?_
      cases e
      exact mm_T.ret rfl ⟨rfl, rfl⟩
    · rw [if_neg h61] at e
      refine mm_T.seg (f' := (22, [some (.ref 62), some (.long x1), none], [(.int 0)])) (h' := (107, I, J, mm_rf rv sp rr w nw)) 1 rfl ?_
      cases e
      exact mm_T.ret rfl ⟨rfl, rfl⟩
  · rw [if_neg h60] at e
    refine mm_T.seg (f' := (22, [some (.ref 62), some (.long x1), none], [(.int 0)])) (h' := (107, I, J, mm_rf rv sp rr w nw)) 1 rfl ?_
    cases e
    exact mm_T.ret rfl ⟨rfl, rfl⟩
set_option maxRecDepth 100000 in
set_option maxHeartbeats 4000000 in
theorem tX12_isOwn (d : Nat) (I : Nat → Nat → Int32) (J : Nat → Nat → Int64) (rv sp rr w nw : Nat) (out : Int32) (e : fX12_isOwn J = out) : mm_T none (d + 0) 217 (mm_ent 217 [(.ref 62)]) (107, I, J, mm_rf rv sp rr w nw) (fun v h => v = some (.int out) ∧ h = (107, I, J, mm_rf rv sp rr w nw)) := by
  unfold fX12_isOwn at e
  refine mm_T.seg (f' := (8, [some (.ref 62)], [(.int (lg_cmp (J 62 9) 512736126322))])) (h' := (107, I, J, mm_rf rv sp rr w nw)) 4 rfl ?_
  refine mm_T.br (c := (lg_cmp (J 62 9) 512736126322) = 0) (a := ((209, [some (.ref 62)], []), (107, I, J, mm_rf rv sp rr w nw))) (b := ((11, [some (.ref 62)], []), (107, I, J, mm_rf rv sp rr w nw))) rfl (fun h62 => ?_) (fun h62 => ?_)
  · rw [if_pos h62] at e
    refine mm_T.seg (f' := (214, [some (.ref 62)], [(.int 1)])) (h' := (107, I, J, mm_rf rv sp rr w nw)) 2 rfl ?_
    cases e
    exact mm_T.ret rfl ⟨rfl, rfl⟩
  · rw [if_neg h62] at e
    refine mm_T.seg (f' := (19, [some (.ref 62)], [(.int (lg_cmp (J 62 9) 25209))])) (h' := (107, I, J, mm_rf rv sp rr w nw)) 4 rfl ?_
    refine mm_T.br (c := (lg_cmp (J 62 9) 25209) = 0) (a := ((209, [some (.ref 62)], []), (107, I, J, mm_rf rv sp rr w nw))) (b := ((22, [some (.ref 62)], []), (107, I, J, mm_rf rv sp rr w nw))) rfl (fun h63 => ?_) (fun h63 => ?_)
    · rw [if_pos h63] at e
      refine mm_T.seg (f' := (214, [some (.ref 62)], [(.int 1)])) (h' := (107, I, J, mm_rf rv sp rr w nw)) 2 rfl ?_
      cases e
      exact mm_T.ret rfl ⟨rfl, rfl⟩
    · rw [if_neg h63] at e
      refine mm_T.seg (f' := (30, [some (.ref 62)], [(.int (lg_cmp (J 62 9) 27995157100326516))])) (h' := (107, I, J, mm_rf rv sp rr w nw)) 4 rfl ?_
      refine mm_T.br (c := (lg_cmp (J 62 9) 27995157100326516) = 0) (a := ((209, [some (.ref 62)], []), (107, I, J, mm_rf rv sp rr w nw))) (b := ((33, [some (.ref 62)], []), (107, I, J, mm_rf rv sp rr w nw))) rfl (fun h64 => ?_) (fun h64 => ?_)
      · rw [if_pos h64] at e
        refine mm_T.seg (f' := (214, [some (.ref 62)], [(.int 1)])) (h' := (107, I, J, mm_rf rv sp rr w nw)) 2 rfl ?_
        cases e
        exact mm_T.ret rfl ⟨rfl, rfl⟩
      · rw [if_neg h64] at e
        refine mm_T.seg (f' := (41, [some (.ref 62)], [(.int (lg_cmp (J 62 9) 24948))])) (h' := (107, I, J, mm_rf rv sp rr w nw)) 4 rfl ?_
        refine mm_T.br (c := (lg_cmp (J 62 9) 24948) = 0) (a := ((209, [some (.ref 62)], []), (107, I, J, mm_rf rv sp rr w nw))) (b := ((44, [some (.ref 62)], []), (107, I, J, mm_rf rv sp rr w nw))) rfl (fun h65 => ?_) (fun h65 => ?_)
        · rw [if_pos h65] at e
          refine mm_T.seg (f' := (214, [some (.ref 62)], [(.int 1)])) (h' := (107, I, J, mm_rf rv sp rr w nw)) 2 rfl ?_
          cases e
          exact mm_T.ret rfl ⟨rfl, rfl⟩
        · rw [if_neg h65] at e
          refine mm_T.seg (f' := (52, [some (.ref 62)], [(.int (lg_cmp (J 62 9) 1769107310))])) (h' := (107, I, J, mm_rf rv sp rr w nw)) 4 rfl ?_
          refine mm_T.br (c := (lg_cmp (J 62 9) 1769107310) = 0) (a := ((209, [some (.ref 62)], []), (107, I, J, mm_rf rv sp rr w nw))) (b := ((55, [some (.ref 62)], []), (107, I, J, mm_rf rv sp rr w nw))) rfl (fun h66 => ?_) (fun h66 => ?_)
          · rw [if_pos h66] at e
            refine mm_T.seg (f' := (214, [some (.ref 62)], [(.int 1)])) (h' := (107, I, J, mm_rf rv sp rr w nw)) 2 rfl ?_
            cases e
            exact mm_T.ret rfl ⟨rfl, rfl⟩
          · rw [if_neg h66] at e
            refine mm_T.seg (f' := (63, [some (.ref 62)], [(.int (lg_cmp (J 62 9) 422775452260))])) (h' := (107, I, J, mm_rf rv sp rr w nw)) 4 rfl ?_
            refine mm_T.br (c := (lg_cmp (J 62 9) 422775452260) = 0) (a := ((209, [some (.ref 62)], []), (107, I, J, mm_rf rv sp rr w nw))) (b := ((66, [some (.ref 62)], []), (107, I, J, mm_rf rv sp rr w nw))) rfl (fun h67 => ?_) (fun h67 => ?_)
            · rw [if_pos h67] at e
              refine mm_T.seg (f' := (214, [some (.ref 62)], [(.int 1)])) (h' := (107, I, J, mm_rf rv sp rr w nw)) 2 rfl ?_
              cases e
              exact mm_T.ret rfl ⟨rfl, rfl⟩
            · rw [if_neg h67] at e
              refine mm_T.seg (f' := (74, [some (.ref 62)], [(.int (lg_cmp (J 62 9) 2003395685))])) (h' := (107, I, J, mm_rf rv sp rr w nw)) 4 rfl ?_
              refine mm_T.br (c := (lg_cmp (J 62 9) 2003395685) = 0) (a := ((209, [some (.ref 62)], []), (107, I, J, mm_rf rv sp rr w nw))) (b := ((77, [some (.ref 62)], []), (107, I, J, mm_rf rv sp rr w nw))) rfl (fun h68 => ?_) (fun h68 => ?_)
              · rw [if_pos h68] at e
                refine mm_T.seg (f' := (214, [some (.ref 62)], [(.int 1)])) (h' := (107, I, J, mm_rf rv sp rr w nw)) 2 rfl ?_
                cases e
                exact mm_T.ret rfl ⟨rfl, rfl⟩
              · rw [if_neg h68] at e
                refine mm_T.seg (f' := (85, [some (.ref 62)], [(.int (lg_cmp (J 62 9) 422607680115))])) (h' := (107, I, J, mm_rf rv sp rr w nw)) 4 rfl ?_
                refine mm_T.br (c := (lg_cmp (J 62 9) 422607680115) = 0) (a := ((209, [some (.ref 62)], []), (107, I, J, mm_rf rv sp rr w nw))) (b := ((88, [some (.ref 62)], []), (107, I, J, mm_rf rv sp rr w nw))) rfl (fun h69 => ?_) (fun h69 => ?_)
                · rw [if_pos h69] at e
                  refine mm_T.seg (f' := (214, [some (.ref 62)], [(.int 1)])) (h' := (107, I, J, mm_rf rv sp rr w nw)) 2 rfl ?_
                  cases e
                  exact mm_T.ret rfl ⟨rfl, rfl⟩
                · rw [if_neg h69] at e
                  refine mm_T.seg (f' := (96, [some (.ref 62)], [(.int (lg_cmp (J 62 9) 1819238756))])) (h' := (107, I, J, mm_rf rv sp rr w nw)) 4 rfl ?_
                  refine mm_T.br (c := (lg_cmp (J 62 9) 1819238756) = 0) (a := ((209, [some (.ref 62)], []), (107, I, J, mm_rf rv sp rr w nw))) (b := ((99, [some (.ref 62)], []), (107, I, J, mm_rf rv sp rr w nw))) rfl (fun h70 => ?_) (fun h70 => ?_)
                  · rw [if_pos h70] at e
                    refine mm_T.seg (f' := (214, [some (.ref 62)], [(.int 1)])) (h' := (107, I, J, mm_rf rv sp rr w nw)) 2 rfl ?_
                    cases e
                    exact mm_T.ret rfl ⟨rfl, rfl⟩
                  · rw [if_neg h70] at e
                    refine mm_T.seg (f' := (107, [some (.ref 62)], [(.int (lg_cmp (J 62 9) 1751474548))])) (h' := (107, I, J, mm_rf rv sp rr w nw)) 4 rfl ?_
                    refine mm_T.br (c := (lg_cmp (J 62 9) 1751474548) = 0) (a := ((209, [some (.ref 62)], []), (107, I, J, mm_rf rv sp rr w nw))) (b := ((110, [some (.ref 62)], []), (107, I, J, mm_rf rv sp rr w nw))) rfl (fun h71 => ?_) (fun h71 => ?_)
                    · rw [if_pos h71] at e
                      refine mm_T.seg (f' := (214, [some (.ref 62)], [(.int 1)])) (h' := (107, I, J, mm_rf rv sp rr w nw)) 2 rfl ?_
                      cases e
                      exact mm_T.ret rfl ⟨rfl, rfl⟩
                    · rw [if_neg h71] at e
                      refine mm_T.seg (f' := (118, [some (.ref 62)], [(.int (lg_cmp (J 62 9) 439905906532))])) (h' := (107, I, J, mm_rf rv sp rr w nw)) 4 rfl ?_
                      refine mm_T.br (c := (lg_cmp (J 62 9) 439905906532) = 0) (a := ((209, [some (.ref 62)], []), (107, I, J, mm_rf rv sp rr w nw))) (b := ((121, [some (.ref 62)], []), (107, I, J, mm_rf rv sp rr w nw))) rfl (fun h72 => ?_) (fun h72 => ?_)
                      · rw [if_pos h72] at e
                        refine mm_T.seg (f' := (214, [some (.ref 62)], [(.int 1)])) (h' := (107, I, J, mm_rf rv sp rr w nw)) 2 rfl ?_
                        cases e
                        exact mm_T.ret rfl ⟨rfl, rfl⟩
                      · rw [if_neg h72] at e
                        refine mm_T.seg (f' := (129, [some (.ref 62)], [(.int (lg_cmp (J 62 9) 1685217655))])) (h' := (107, I, J, mm_rf rv sp rr w nw)) 4 rfl ?_
                        refine mm_T.br (c := (lg_cmp (J 62 9) 1685217655) = 0) (a := ((209, [some (.ref 62)], []), (107, I, J, mm_rf rv sp rr w nw))) (b := ((132, [some (.ref 62)], []), (107, I, J, mm_rf rv sp rr w nw))) rfl (fun h73 => ?_) (fun h73 => ?_)
                        · rw [if_pos h73] at e
                          refine mm_T.seg (f' := (214, [some (.ref 62)], [(.int 1)])) (h' := (107, I, J, mm_rf rv sp rr w nw)) 2 rfl ?_
                          cases e
                          exact mm_T.ret rfl ⟨rfl, rfl⟩
                        · rw [if_neg h73] at e
                          refine mm_T.seg (f' := (140, [some (.ref 62)], [(.int (lg_cmp (J 62 9) 7499639))])) (h' := (107, I, J, mm_rf rv sp rr w nw)) 4 rfl ?_
                          refine mm_T.br (c := (lg_cmp (J 62 9) 7499639) = 0) (a := ((209, [some (.ref 62)], []), (107, I, J, mm_rf rv sp rr w nw))) (b := ((143, [some (.ref 62)], []), (107, I, J, mm_rf rv sp rr w nw))) rfl (fun h74 => ?_) (fun h74 => ?_)
                          · rw [if_pos h74] at e
                            refine mm_T.seg (f' := (214, [some (.ref 62)], [(.int 1)])) (h' := (107, I, J, mm_rf rv sp rr w nw)) 2 rfl ?_
                            cases e
                            exact mm_T.ret rfl ⟨rfl, rfl⟩
                          · rw [if_neg h74] at e
                            refine mm_T.seg (f' := (151, [some (.ref 62)], [(.int (lg_cmp (J 62 9) 109330212154734))])) (h' := (107, I, J, mm_rf rv sp rr w nw)) 4 rfl ?_
                            refine mm_T.br (c := (lg_cmp (J 62 9) 109330212154734) = 0) (a := ((209, [some (.ref 62)], []), (107, I, J, mm_rf rv sp rr w nw))) (b := ((154, [some (.ref 62)], []), (107, I, J, mm_rf rv sp rr w nw))) rfl (fun h75 => ?_) (fun h75 => ?_)
                            · rw [if_pos h75] at e
                              refine mm_T.seg (f' := (214, [some (.ref 62)], [(.int 1)])) (h' := (107, I, J, mm_rf rv sp rr w nw)) 2 rfl ?_
                              cases e
                              exact mm_T.ret rfl ⟨rfl, rfl⟩
                            · rw [if_neg h75] at e
                              refine mm_T.seg (f' := (162, [some (.ref 62)], [(.int (lg_cmp (J 62 9) 32497657166128499))])) (h' := (107, I, J, mm_rf rv sp rr w nw)) 4 rfl ?_
                              refine mm_T.br (c := (lg_cmp (J 62 9) 32497657166128499) = 0) (a := ((209, [some (.ref 62)], []), (107, I, J, mm_rf rv sp rr w nw))) (b := ((165, [some (.ref 62)], []), (107, I, J, mm_rf rv sp rr w nw))) rfl (fun h76 => ?_) (fun h76 => ?_)
                              · rw [if_pos h76] at e
                                refine mm_T.seg (f' := (214, [some (.ref 62)], [(.int 1)])) (h' := (107, I, J, mm_rf rv sp rr w nw)) 2 rfl ?_
                                cases e
                                exact mm_T.ret rfl ⟨rfl, rfl⟩
                              · rw [if_neg h76] at e
                                refine mm_T.seg (f' := (173, [some (.ref 62)], [(.int (lg_cmp (J 62 9) 6844276))])) (h' := (107, I, J, mm_rf rv sp rr w nw)) 4 rfl ?_
                                refine mm_T.br (c := (lg_cmp (J 62 9) 6844276) = 0) (a := ((209, [some (.ref 62)], []), (107, I, J, mm_rf rv sp rr w nw))) (b := ((176, [some (.ref 62)], []), (107, I, J, mm_rf rv sp rr w nw))) rfl (fun h77 => ?_) (fun h77 => ?_)
                                · rw [if_pos h77] at e
                                  refine mm_T.seg (f' := (214, [some (.ref 62)], [(.int 1)])) (h' := (107, I, J, mm_rf rv sp rr w nw)) 2 rfl ?_
                                  cases e
                                  exact mm_T.ret rfl ⟨rfl, rfl⟩
                                · rw [if_neg h77] at e
                                  refine mm_T.seg (f' := (184, [some (.ref 62)], [(.int (lg_cmp (J 62 9) 6385252))])) (h' := (107, I, J, mm_rf rv sp rr w nw)) 4 rfl ?_
                                  refine mm_T.br (c := (lg_cmp (J 62 9) 6385252) = 0) (a := ((209, [some (.ref 62)], []), (107, I, J, mm_rf rv sp rr w nw))) (b := ((187, [some (.ref 62)], []), (107, I, J, mm_rf rv sp rr w nw))) rfl (fun h78 => ?_) (fun h78 => ?_)
                                  · rw [if_pos h78] at e
                                    refine mm_T.seg (f' := (214, [some (.ref 62)], [(.int 1)])) (h' := (107, I, J, mm_rf rv sp rr w nw)) 2 rfl ?_
                                    cases e
                                    exact mm_T.ret rfl ⟨rfl, rfl⟩
                                  · rw [if_neg h78] at e
                                    refine mm_T.seg (f' := (195, [some (.ref 62)], [(.int (lg_cmp (J 62 9) 28530))])) (h' := (107, I, J, mm_rf rv sp rr w nw)) 4 rfl ?_
                                    refine mm_T.br (c := (lg_cmp (J 62 9) 28530) = 0) (a := ((209, [some (.ref 62)], []), (107, I, J, mm_rf rv sp rr w nw))) (b := ((198, [some (.ref 62)], []), (107, I, J, mm_rf rv sp rr w nw))) rfl (fun h79 => ?_) (fun h79 => ?_)
                                    · rw [if_pos h79] at e
                                      refine mm_T.seg (f' := (214, [some (.ref 62)], [(.int 1)])) (h' := (107, I, J, mm_rf rv sp rr w nw)) 2 rfl ?_
                                      cases e
                                      exact mm_T.ret rfl ⟨rfl, rfl⟩
                                    · rw [if_neg h79] at e
                                      refine mm_T.seg (f' := (206, [some (.ref 62)], [(.int (lg_cmp (J 62 9) 7237492))])) (h' := (107, I, J, mm_rf rv sp rr w nw)) 4 rfl ?_
                                      refine mm_T.br (c := (lg_cmp (J 62 9) 7237492) = 0) (a := ((209, [some (.ref 62)], []), (107, I, J, mm_rf rv sp rr w nw))) (b := ((213, [some (.ref 62)], []), (107, I, J, mm_rf rv sp rr w nw))) rfl (fun h80 => ?_) (fun h80 => ?_)
                                      · rw [if_pos h80] at e
                                        refine mm_T.seg (f' := (214, [some (.ref 62)], [(.int 1)])) (h' := (107, I, J, mm_rf rv sp rr w nw)) 2 rfl ?_
                                        cases e
                                        exact mm_T.ret rfl ⟨rfl, rfl⟩
                                      · rw [if_neg h80] at e
                                        refine mm_T.seg (f' := (214, [some (.ref 62)], [(.int 0)])) (h' := (107, I, J, mm_rf rv sp rr w nw)) 1 rfl ?_
                                        cases e
                                        exact mm_T.ret rfl ⟨rfl, rfl⟩
set_option maxRecDepth 100000 in
set_option maxHeartbeats 4000000 in
theorem tX12_isName (d : Nat) (I : Nat → Nat → Int32) (J : Nat → Nat → Int64) (rv sp rr w nw : Nat) (out : Int32) (e : fX12_isName I J = out) : mm_T none (d + 1) 218 (mm_ent 218 [(.ref 62)]) (107, I, J, mm_rf rv sp rr w nw) (fun v h => v = some (.int out) ∧ h = (107, I, J, mm_rf rv sp rr w nw)) := by
  unfold fX12_isName at e
  refine mm_T.seg (f' := (5, [some (.ref 62)], [(.int 1), (.int (I 62 6))])) (h' := (107, I, J, mm_rf rv sp rr w nw)) 3 rfl ?_
  refine mm_T.br (c := (I 62 6) = 1) (a := ((8, [some (.ref 62)], []), (107, I, J, mm_rf rv sp rr w nw))) (b := ((19, [some (.ref 62)], []), (107, I, J, mm_rf rv sp rr w nw))) rfl (fun h81 => ?_) (fun h81 => ?_)
  · rw [if_pos h81] at e
    refine mm_T.seg (f' := (9, [some (.ref 62)], [(.ref 62)])) (h' := (107, I, J, mm_rf rv sp rr w nw)) 1 rfl ?_
    obtain ⟨g8, hg8⟩ : ∃ z, fX12_isOwn J = z := ⟨_, rfl⟩
    try rw [hg8] at e
    refine mm_T.call (t := 217) (as := [(.ref 62)]) (f' := (12, [some (.ref 62)], [])) rfl (tX12_isOwn (d + 0) I J rv sp rr w nw g8 hg8) (fun v h hq => ?_)
    obtain ⟨rfl, rfl⟩ := hq
    refine mm_T.br (c := g8 = 0) (a := ((15, [some (.ref 62)], []), (107, I, J, mm_rf rv sp rr w nw))) (b := ((19, [some (.ref 62)], []), (107, I, J, mm_rf rv sp rr w nw))) rfl (fun h82 => ?_) (fun h82 => ?_)
    · rw [if_pos h82] at e
      refine mm_T.seg (f' := (20, [some (.ref 62)], [(.int 1)])) (h' := (107, I, J, mm_rf rv sp rr w nw)) 2 rfl ?_
      cases e
      exact mm_T.ret rfl ⟨rfl, rfl⟩
    · rw [if_neg h82] at e
      refine mm_T.seg (f' := (20, [some (.ref 62)], [(.int 0)])) (h' := (107, I, J, mm_rf rv sp rr w nw)) 1 rfl ?_
      cases e
      exact mm_T.ret rfl ⟨rfl, rfl⟩
  · rw [if_neg h81] at e
    refine mm_T.seg (f' := (20, [some (.ref 62)], [(.int 0)])) (h' := (107, I, J, mm_rf rv sp rr w nw)) 1 rfl ?_
    cases e
    exact mm_T.ret rfl ⟨rfl, rfl⟩
set_option maxRecDepth 100000 in
set_option maxHeartbeats 4000000 in
theorem tX12_want (d n : Nat) (x1 : Int64) (I : Nat → Nat → Int32) (J : Nat → Nat → Int64) (rv sp rr w nw : Nat) (out : (Nat → Nat → Int32) × (Nat → Nat → Int64)) (e : fX12_want n x1 I J = some out) : mm_T none (d + 2) 219 (mm_ent 219 [(.ref 62), (.long x1)]) (107, I, J, mm_rf rv sp rr w nw) (fun v h => v = none ∧ h = (107, out.1, out.2, mm_rf rv sp rr w nw)) := by
  unfold fX12_want at e
  refine mm_T.seg (f' := (4, [some (.ref 62), some (.long x1), none], [(.int (I 62 2))])) (h' := (107, I, J, mm_rf rv sp rr w nw)) 2 rfl ?_
  refine mm_T.br (c := 0 < (I 62 2)) (a := ((7, [some (.ref 62), some (.long x1), none], []), (107, I, J, mm_rf rv sp rr w nw))) (b := ((8, [some (.ref 62), some (.long x1), none], []), (107, I, J, mm_rf rv sp rr w nw))) rfl (fun h83 => ?_) (fun h83 => ?_)
  · rw [if_pos h83] at e
    cases e
    exact mm_T.ret rfl ⟨rfl, rfl⟩
  · rw [if_neg h83] at e
    refine mm_T.seg (f' := (10, [some (.ref 62), some (.long x1), none], [(.long x1), (.ref 62)])) (h' := (107, I, J, mm_rf rv sp rr w nw)) 2 rfl ?_
    obtain ⟨g9, hg9⟩ : ∃ z, fX12_isWord x1 I J = z := ⟨_, rfl⟩
    try rw [hg9] at e
    refine mm_T.call (t := 216) (as := [(.ref 62), (.long x1)]) (f' := (13, [some (.ref 62), some (.long x1), none], [])) rfl (tX12_isWord (d + 1) x1 I J rv sp rr w nw g9 hg9) (fun v h hq => ?_)
    obtain ⟨rfl, rfl⟩ := hq
    refine mm_T.br (c := g9 = 0) (a := ((16, [some (.ref 62), some (.long x1), none], []), (107, I, J, mm_rf rv sp rr w nw))) (b := ((24, [some (.ref 62), some (.long x1), none], []), (107, I, J, mm_rf rv sp rr w nw))) rfl (fun h84 => ?_) (fun h84 => ?_)
    · rw [if_pos h84] at e
      refine mm_T.seg (f' := (18, [some (.ref 62), some (.long x1), none], [(.int 2), (.ref 62)])) (h' := (107, I, J, mm_rf rv sp rr w nw)) 2 rfl ?_
      obtain ⟨g10, hg10⟩ : ∃ z, fX12_wrong 2 I = z := ⟨_, rfl⟩
      try rw [hg10] at e
      refine mm_T.call (t := 215) (as := [(.ref 62), (.int 2)]) (f' := (21, [some (.ref 62), some (.long x1), none], [])) rfl (tX12_wrong (d + 1) 2 I J rv sp rr w nw g10 hg10) (fun v h hq => ?_)
      obtain ⟨rfl, rfl⟩ := hq
      refine mm_T.seg (f' := (28, [some (.ref 62), some (.long x1), none], [])) (h' := (107, g10, J, mm_rf rv sp rr w nw)) 1 rfl ?_
      cases e
      exact mm_T.ret rfl ⟨rfl, rfl⟩
    · rw [if_neg h84] at e
      refine mm_T.seg (f' := (25, [some (.ref 62), some (.long x1), none], [(.ref 62)])) (h' := (107, I, J, mm_rf rv sp rr w nw)) 1 rfl ?_
      obtain ⟨o85, eo85, e⟩ := mm_bind e
      refine mm_T.call (t := 214) (as := [(.ref 62)]) (f' := (28, [some (.ref 62), some (.long x1), none], [])) rfl (tX12_token (d + 0) n I J rv sp rr w nw o85 eo85) (fun v h hq => ?_)
      obtain ⟨rfl, rfl⟩ := hq
      cases e
      exact mm_T.ret rfl ⟨rfl, rfl⟩
set_option maxRecDepth 100000 in
set_option maxHeartbeats 4000000 in
theorem tbX12_toldNumber_J46 (d n : Nat) (I : Nat → Nat → Int32) (J : Nat → Nat → Int64) (rv sp rr w nw : Nat) (out : Int32 × (Nat → Nat → Int32) × (Nat → Nat → Int64)) (e : fX12_toldNumber_J46 n I J = some out) : mm_T none (d + 2) 220 (46, [some (.ref 62), none, none, none], []) (107, I, J, mm_rf rv sp rr w nw) (fun v h => v = some (.int out.1) ∧ h = (107, out.2.1, out.2.2, mm_rf rv sp rr w nw)) := by
  unfold fX12_toldNumber_J46 at e
  refine mm_T.seg (f' := (55, [some (.ref 62), none, none, some (.int (I 62 8))], [(.int (I 62 2))])) (h' := (107, I, J, mm_rf rv sp rr w nw)) 5 rfl ?_
  refine mm_T.br (c := (I 62 2) = 0) (a := ((58, [some (.ref 62), none, none, some (.int (I 62 8))], []), (107, I, J, mm_rf rv sp rr w nw))) (b := ((62, [some (.ref 62), none, none, some (.int (I 62 8))], []), (107, I, J, mm_rf rv sp rr w nw))) rfl (fun h89 => ?_) (fun h89 => ?_)
  · rw [if_pos h89] at e
    refine mm_T.seg (f' := (59, [some (.ref 62), none, none, some (.int (I 62 8))], [(.ref 62)])) (h' := (107, I, J, mm_rf rv sp rr w nw)) 1 rfl ?_
    obtain ⟨o90, eo90, e⟩ := mm_bind e
    refine mm_T.call (t := 214) (as := [(.ref 62)]) (f' := (62, [some (.ref 62), none, none, some (.int (I 62 8))], [])) rfl (tX12_token (d + 0) n I J rv sp rr w nw o90 eo90) (fun v h hq => ?_)
    obtain ⟨rfl, rfl⟩ := hq
    refine mm_T.seg (f' := (63, [some (.ref 62), none, none, some (.int (I 62 8))], [(.int (I 62 8))])) (h' := (107, o90.1, o90.2, mm_rf rv sp rr w nw)) 1 rfl ?_
    cases e
    exact mm_T.ret rfl ⟨rfl, rfl⟩
  · rw [if_neg h89] at e
    refine mm_T.seg (f' := (63, [some (.ref 62), none, none, some (.int (I 62 8))], [(.int (I 62 8))])) (h' := (107, I, J, mm_rf rv sp rr w nw)) 1 rfl ?_
    cases e
    exact mm_T.ret rfl ⟨rfl, rfl⟩
set_option maxRecDepth 100000 in
set_option maxHeartbeats 4000000 in
theorem tbX12_toldNumber_J41 (d n : Nat) (I : Nat → Nat → Int32) (J : Nat → Nat → Int64) (rv sp rr w nw : Nat) (out : Int32 × (Nat → Nat → Int32) × (Nat → Nat → Int64)) (e : fX12_toldNumber_J41 n I J = some out) : mm_T none (d + 2) 220 (41, [some (.ref 62), none, none, none], []) (107, I, J, mm_rf rv sp rr w nw) (fun v h => v = some (.int out.1) ∧ h = (107, out.2.1, out.2.2, mm_rf rv sp rr w nw)) := by
  unfold fX12_toldNumber_J41 at e
  refine mm_T.seg (f' := (43, [some (.ref 62), none, none, none], [(.int 4), (.ref 62)])) (h' := (107, I, J, mm_rf rv sp rr w nw)) 2 rfl ?_
  obtain ⟨g11, hg11⟩ : ∃ z, fX12_wrong 4 I = z := ⟨_, rfl⟩
  try rw [hg11] at e
  refine mm_T.call (t := 215) (as := [(.ref 62), (.int 4)]) (f' := (46, [some (.ref 62), none, none, none], [])) rfl (tX12_wrong (d + 1) 4 I J rv sp rr w nw g11 hg11) (fun v h hq => ?_)
  obtain ⟨rfl, rfl⟩ := hq
  refine mm_T.mask [true, false, false, false] ?_
  exact tbX12_toldNumber_J46 d n g11 J rv sp rr w nw out e
set_option maxRecDepth 100000 in
set_option maxHeartbeats 4000000 in
theorem tX12_toldNumber (d n : Nat) (x1 : Int32) (x2 : Int32) (I : Nat → Nat → Int32) (J : Nat → Nat → Int64) (rv sp rr w nw : Nat) (out : Int32 × (Nat → Nat → Int32) × (Nat → Nat → Int64)) (e : fX12_toldNumber n x1 x2 I J = some out) : mm_T none (d + 2) 220 (mm_ent 220 [(.ref 62), (.int x1), (.int x2)]) (107, I, J, mm_rf rv sp rr w nw) (fun v h => v = some (.int out.1) ∧ h = (107, out.2.1, out.2.2, mm_rf rv sp rr w nw)) := by
  unfold fX12_toldNumber at e
  refine mm_T.seg (f' := (4, [some (.ref 62), some (.int x1), some (.int x2), none], [(.int (I 62 2))])) (h' := (107, I, J, mm_rf rv sp rr w nw)) 2 rfl ?_
  refine mm_T.br (c := 0 < (I 62 2)) (a := ((7, [some (.ref 62), some (.int x1), some (.int x2), none], []), (107, I, J, mm_rf rv sp rr w nw))) (b := ((9, [some (.ref 62), some (.int x1), some (.int x2), none], []), (107, I, J, mm_rf rv sp rr w nw))) rfl (fun h86 => ?_) (fun h86 => ?_)
  · rw [if_pos h86] at e
    refine mm_T.seg (f' := (8, [some (.ref 62), some (.int x1), some (.int x2), none], [(.int 0)])) (h' := (107, I, J, mm_rf rv sp rr w nw)) 1 rfl ?_
    cases e
    exact mm_T.ret rfl ⟨rfl, rfl⟩
  · rw [if_neg h86] at e
    refine mm_T.seg (f' := (14, [some (.ref 62), some (.int x1), some (.int x2), none], [(.int 2), (.int (I 62 6))])) (h' := (107, I, J, mm_rf rv sp rr w nw)) 3 rfl ?_
    refine mm_T.br (c := (I 62 6) = 2) (a := ((25, [some (.ref 62), some (.int x1), some (.int x2), none], []), (107, I, J, mm_rf rv sp rr w nw))) (b := ((17, [some (.ref 62), some (.int x1), some (.int x2), none], []), (107, I, J, mm_rf rv sp rr w nw))) rfl (fun h87 => ?_) (fun h87 => ?_)
    · rw [if_pos h87] at e
      refine mm_T.seg (f' := (30, [some (.ref 62), some (.int x1), some (.int x2), none], [(.int x1), (.int (I 62 8))])) (h' := (107, I, J, mm_rf rv sp rr w nw)) 3 rfl ?_
      refine mm_T.br (c := (I 62 8) < x1) (a := ((41, [some (.ref 62), some (.int x1), some (.int x2), none], []), (107, I, J, mm_rf rv sp rr w nw))) (b := ((33, [some (.ref 62), some (.int x1), some (.int x2), none], []), (107, I, J, mm_rf rv sp rr w nw))) rfl (fun h88 => ?_) (fun h88 => ?_)
      · rw [if_pos h88] at e
        refine mm_T.mask [true, false, false, false] ?_
        exact tbX12_toldNumber_J41 d n I J rv sp rr w nw out e
      · rw [if_neg h88] at e
        refine mm_T.seg (f' := (38, [some (.ref 62), some (.int x1), some (.int x2), none], [(.int x2), (.int (I 62 8))])) (h' := (107, I, J, mm_rf rv sp rr w nw)) 3 rfl ?_
        refine mm_T.br (c := x2 < (I 62 8)) (a := ((41, [some (.ref 62), some (.int x1), some (.int x2), none], []), (107, I, J, mm_rf rv sp rr w nw))) (b := ((46, [some (.ref 62), some (.int x1), some (.int x2), none], []), (107, I, J, mm_rf rv sp rr w nw))) rfl (fun h91 => ?_) (fun h91 => ?_)
        · rw [if_pos h91] at e
          refine mm_T.mask [true, false, false, false] ?_
          exact tbX12_toldNumber_J41 d n I J rv sp rr w nw out e
        · rw [if_neg h91] at e
          refine mm_T.mask [true, false, false, false] ?_
          exact tbX12_toldNumber_J46 d n I J rv sp rr w nw out e
    · rw [if_neg h87] at e
      refine mm_T.seg (f' := (19, [some (.ref 62), some (.int x1), some (.int x2), none], [(.int 2), (.ref 62)])) (h' := (107, I, J, mm_rf rv sp rr w nw)) 2 rfl ?_
      obtain ⟨g12, hg12⟩ : ∃ z, fX12_wrong 2 I = z := ⟨_, rfl⟩
      try rw [hg12] at e
      refine mm_T.call (t := 215) (as := [(.ref 62), (.int 2)]) (f' := (22, [some (.ref 62), some (.int x1), some (.int x2), none], [])) rfl (tX12_wrong (d + 1) 2 I J rv sp rr w nw g12 hg12) (fun v h hq => ?_)
      obtain ⟨rfl, rfl⟩ := hq
      refine mm_T.seg (f' := (46, [some (.ref 62), some (.int x1), some (.int x2), none], [])) (h' := (107, g12, J, mm_rf rv sp rr w nw)) 1 rfl ?_
      refine mm_T.mask [true, false, false, false] ?_
      exact tbX12_toldNumber_J46 d n g12 J rv sp rr w nw out e
set_option maxRecDepth 100000 in
set_option maxHeartbeats 4000000 in
theorem tX12_told (d n : Nat) (x1 : Int64) (x3 : Int32) (x4 : Int32) (I : Nat → Nat → Int32) (J : Nat → Nat → Int64) (rv sp rr w nw : Nat) (out : Int32 × (Nat → Nat → Int32) × (Nat → Nat → Int64)) (e : fX12_told n x1 x3 x4 I J = some out) : mm_T none (d + 3) 221 (mm_ent 221 [(.ref 62), (.long x1), (.int x3), (.int x4)]) (107, I, J, mm_rf rv sp rr w nw) (fun v h => v = some (.int out.1) ∧ h = (107, out.2.1, out.2.2, mm_rf rv sp rr w nw)) := by
  unfold fX12_told at e
  refine mm_T.seg (f' := (2, [some (.ref 62), some (.long x1), none, some (.int x3), some (.int x4)], [(.long x1), (.ref 62)])) (h' := (107, I, J, mm_rf rv sp rr w nw)) 2 rfl ?_
  obtain ⟨o92, eo92, e⟩ := mm_bind e
  refine mm_T.call (t := 219) (as := [(.ref 62), (.long x1)]) (f' := (5, [some (.ref 62), some (.long x1), none, some (.int x3), some (.int x4)], [])) rfl (tX12_want (d + 0) n x1 I J rv sp rr w nw o92 eo92) (fun v h hq => ?_)
  obtain ⟨rfl, rfl⟩ := hq
  refine mm_T.seg (f' := (9, [some (.ref 62), some (.long x1), none, some (.int x3), some (.int x4)], [(.int x4), (.int x3), (.ref 62)])) (h' := (107, o92.1, o92.2, mm_rf rv sp rr w nw)) 3 rfl ?_
  obtain ⟨o93, eo93, e⟩ := mm_bind e
  refine mm_T.call (t := 220) (as := [(.ref 62), (.int x3), (.int x4)]) (f' := (12, [some (.ref 62), some (.long x1), none, some (.int x3), some (.int x4)], [])) rfl (tX12_toldNumber (d + 0) n x3 x4 o92.1 o92.2 rv sp rr w nw o93 eo93) (fun v h hq => ?_)
  obtain ⟨rfl, rfl⟩ := hq
  cases e
  exact mm_T.ret rfl ⟨rfl, rfl⟩
set_option maxRecDepth 100000 in
set_option maxHeartbeats 4000000 in
theorem tlX12_newName_L18 (d : Nat) (Q : Option Value → mm_H → Prop) : ∀ (n : Nat) (y1 : Int32) (y2 : Int32) (y3 : Int32) (I : Nat → Nat → Int32) (J : Nat → Nat → Int64) (rv sp rr w nw : Nat), ∀ (out : (Nat → Nat → Int32)), fX12_newName_L18 n y1 y2 y3 I J = some out → mm_T none (d + 2) 222 (57, [some (.ref 62), some (.int y1), some (.int y2), none], []) (107, out, J, mm_rf rv sp rr w nw) Q → mm_T none (d + 2) 222 (18, [some (.ref 62), some (.int y1), some (.int y2), some (.int y3)], []) (107, I, J, mm_rf rv sp rr w nw) Q := by
  intro n
  induction n with
  | zero =>
    intro y1 y2 y3 I J rv sp rr w nw out e k
    rw [fX12_newName_L18] at e; cases e
  | succ n ih =>
    intro y1 y2 y3 I J rv sp rr w nw out e k
    rw [fX12_newName_L18] at e
    refine mm_T.seg (f' := (20, [some (.ref 62), some (.int y1), some (.int y2), some (.int y3)], [(.int y2), (.int y3)])) (h' := (107, I, J, mm_rf rv sp rr w nw)) 2 rfl ?_
    refine mm_T.br (c := y3 < y2) (a := ((23, [some (.ref 62), some (.int y1), some (.int y2), some (.int y3)], []), (107, I, J, mm_rf rv sp rr w nw))) (b := ((57, [some (.ref 62), some (.int y1), some (.int y2), some (.int y3)], []), (107, I, J, mm_rf rv sp rr w nw))) rfl (fun h100 => ?_) (fun h100 => ?_)
    · rw [if_pos h100] at e
      refine mm_T.seg (f' := (27, [some (.ref 62), some (.int y1), some (.int y2), some (.int y3)], [(.int (I 62 2))])) (h' := (107, I, J, mm_rf rv sp rr w nw)) 2 rfl ?_
      refine mm_T.br (c := (I 62 2) = 0) (a := ((30, [some (.ref 62), some (.int y1), some (.int y2), some (.int y3)], []), (107, I, J, mm_rf rv sp rr w nw))) (b := ((57, [some (.ref 62), some (.int y1), some (.int y2), some (.int y3)], []), (107, I, J, mm_rf rv sp rr w nw))) rfl (fun h101 => ?_) (fun h101 => ?_)
      · rw [if_pos h101] at e
        refine mm_T.seg (f' := (34, [some (.ref 62), some (.int y1), some (.int y2), some (.int y3)], [(.ref 64)])) (h' := (107, I, J, mm_rf rv sp rr w nw)) 2 rfl ?_
        refine mm_T.seg (f' := (37, [some (.ref 62), some (.int y1), some (.int y2), some (.int y3)], [(.int (y1 + y3)), (.ref 64)])) (h' := (107, I, J, mm_rf rv sp rr w nw)) 3 rfl ?_
        by_cases h102 : (y1 + y3) < 0 ∨ 11 ≤ (y1 + y3).toNatClampNeg
        · rw [if_pos h102] at e; cases e
        rw [if_neg h102] at e
        refine mm_T.guard (c := (y1 + y3) < 0 ∨ 11 ≤ (y1 + y3).toNatClampNeg) (y := ((38, [some (.ref 62), some (.int y1), some (.int y2), some (.int y3)], [(.long (J 64 (y1 + y3).toNatClampNeg))]), (107, I, J, mm_rf rv sp rr w nw))) (mm_gen (P := fun z => mm_stp none 222 (37, [some (.ref 62), some (.int y1), some (.int y2), some (.int y3)], [(.int z), (.ref 64)]) (107, I, J, mm_rf rv sp rr w nw) = if z < 0 ∨ 11 ≤ z.toNatClampNeg then none else some (.inl ((38, [some (.ref 62), some (.int y1), some (.int y2), some (.int y3)], [(.long (J 64 z.toNatClampNeg))]), (107, I, J, mm_rf rv sp rr w nw)))) (y1 + y3) (fun z => rfl)) h102 ?_
        refine mm_T.seg (f' := (43, [some (.ref 62), some (.int y1), some (.int y2), some (.int y3)], [(.int (lg_cmp (J 64 (y1 + y3).toNatClampNeg) (J 62 9)))])) (h' := (107, I, J, mm_rf rv sp rr w nw)) 3 rfl ?_
        refine mm_T.br (c := (lg_cmp (J 64 (y1 + y3).toNatClampNeg) (J 62 9)) = 0) (a := ((46, [some (.ref 62), some (.int y1), some (.int y2), some (.int y3)], []), (107, I, J, mm_rf rv sp rr w nw))) (b := ((51, [some (.ref 62), some (.int y1), some (.int y2), some (.int y3)], []), (107, I, J, mm_rf rv sp rr w nw))) rfl (fun h103 => ?_) (fun h103 => ?_)
        · rw [if_pos h103] at e
          refine mm_T.seg (f' := (48, [some (.ref 62), some (.int y1), some (.int y2), some (.int y3)], [(.int 3), (.ref 62)])) (h' := (107, I, J, mm_rf rv sp rr w nw)) 2 rfl ?_
          obtain ⟨g16, hg16⟩ : ∃ z, fX12_wrong 3 I = z := ⟨_, rfl⟩
          try rw [hg16] at e
          refine mm_T.call (t := 215) (as := [(.ref 62), (.int 3)]) (f' := (51, [some (.ref 62), some (.int y1), some (.int y2), some (.int y3)], [])) rfl (tX12_wrong (d + 1) 3 I J rv sp rr w nw g16 hg16) (fun v h hq => ?_)
          obtain ⟨rfl, rfl⟩ := hq
          refine mm_T.seg (f' := (18, [some (.ref 62), some (.int y1), some (.int y2), some (.int (y3 + 1))], [])) (h' := (107, g16, J, mm_rf rv sp rr w nw)) 2 rfl ?_
          refine mm_T.mask [true, true, true, true] ?_
          exact ih y1 y2 (y3 + 1) g16 J rv sp rr w nw out e k
        · rw [if_neg h103] at e
          refine mm_T.seg (f' := (18, [some (.ref 62), some (.int y1), some (.int y2), some (.int (y3 + 1))], [])) (h' := (107, I, J, mm_rf rv sp rr w nw)) 2 rfl ?_
          refine mm_T.mask [true, true, true, true] ?_
          exact ih y1 y2 (y3 + 1) I J rv sp rr w nw out e k
      · rw [if_neg h101] at e
        cases e
        refine mm_T.mask [true, true, true, false] ?_
        exact k
    · rw [if_neg h100] at e
      cases e
      refine mm_T.mask [true, true, true, false] ?_
      exact k
set_option maxRecDepth 100000 in
set_option maxHeartbeats 4000000 in
theorem tbX12_newName_J57 (d n : Nat) (y1 : Int32) (y2 : Int32) (I : Nat → Nat → Int32) (J : Nat → Nat → Int64) (rv sp rr w nw : Nat) (out : (Nat → Nat → Int32) × (Nat → Nat → Int64)) (e : fX12_newName_J57 n y1 y2 I J = some out) : mm_T none (d + 2) 222 (57, [some (.ref 62), some (.int y1), some (.int y2), none], []) (107, I, J, mm_rf rv sp rr w nw) (fun v h => v = none ∧ h = (107, out.1, out.2, mm_rf rv sp rr w nw)) := by
  unfold fX12_newName_J57 at e
  refine mm_T.seg (f' := (61, [some (.ref 62), some (.int y1), some (.int y2), none], [(.int (I 62 2))])) (h' := (107, I, J, mm_rf rv sp rr w nw)) 2 rfl ?_
  refine mm_T.br (c := 0 < (I 62 2)) (a := ((64, [some (.ref 62), some (.int y1), some (.int y2), none], []), (107, I, J, mm_rf rv sp rr w nw))) (b := ((65, [some (.ref 62), some (.int y1), some (.int y2), none], []), (107, I, J, mm_rf rv sp rr w nw))) rfl (fun h105 => ?_) (fun h105 => ?_)
  · rw [if_pos h105] at e
    cases e
    exact mm_T.ret rfl ⟨rfl, rfl⟩
  · rw [if_neg h105] at e
    refine mm_T.seg (f' := (69, [some (.ref 62), some (.int y1), some (.int y2), none], [(.ref 64)])) (h' := (107, I, J, mm_rf rv sp rr w nw)) 2 rfl ?_
    refine mm_T.seg (f' := (76, [some (.ref 62), some (.int y1), some (.int y2), none], [(.long (J 62 9)), (.int (y1 + y2)), (.ref 64)])) (h' := (107, I, J, mm_rf rv sp rr w nw)) 5 rfl ?_
    by_cases h106 : (y1 + y2) < 0 ∨ 11 ≤ (y1 + y2).toNatClampNeg
    · rw [if_pos h106] at e; cases e
    rw [if_neg h106] at e
    refine mm_T.guard (c := (y1 + y2) < 0 ∨ 11 ≤ (y1 + y2).toNatClampNeg) (y := ((77, [some (.ref 62), some (.int y1), some (.int y2), none], []), (107, I, (mm_up J 64 (y1 + y2).toNatClampNeg (J 62 9)), mm_rf rv sp rr w nw))) (mm_gen (P := fun z => mm_stp none 222 (76, [some (.ref 62), some (.int y1), some (.int y2), none], [(.long (J 62 9)), (.int z), (.ref 64)]) (107, I, J, mm_rf rv sp rr w nw) = if z < 0 ∨ 11 ≤ z.toNatClampNeg then none else some (.inl ((77, [some (.ref 62), some (.int y1), some (.int y2), none], []), (107, I, (mm_up J 64 z.toNatClampNeg (J 62 9)), mm_rf rv sp rr w nw)))) (y1 + y2) (fun z => rfl)) h106 ?_
    refine mm_T.seg (f' := (78, [some (.ref 62), some (.int y1), some (.int y2), none], [(.ref 62)])) (h' := (107, I, (mm_up J 64 (y1 + y2).toNatClampNeg (J 62 9)), mm_rf rv sp rr w nw)) 1 rfl ?_
    obtain ⟨o107, eo107, e⟩ := mm_bind e
    refine mm_T.call (t := 214) (as := [(.ref 62)]) (f' := (81, [some (.ref 62), some (.int y1), some (.int y2), none], [])) rfl (tX12_token (d + 0) n I (mm_up J 64 (y1 + y2).toNatClampNeg (J 62 9)) rv sp rr w nw o107 eo107) (fun v h hq => ?_)
    obtain ⟨rfl, rfl⟩ := hq
    cases e
    exact mm_T.ret rfl ⟨rfl, rfl⟩
set_option maxRecDepth 100000 in
set_option maxHeartbeats 4000000 in
theorem tbX12_newName_J16 (d n : Nat) (y1 : Int32) (y2 : Int32) (I : Nat → Nat → Int32) (J : Nat → Nat → Int64) (rv sp rr w nw : Nat) (out : (Nat → Nat → Int32) × (Nat → Nat → Int64)) (e : fX12_newName_J16 n y1 y2 I J = some out) : mm_T none (d + 2) 222 (16, [some (.ref 62), some (.int y1), some (.int y2), none], []) (107, I, J, mm_rf rv sp rr w nw) (fun v h => v = none ∧ h = (107, out.1, out.2, mm_rf rv sp rr w nw)) := by
  unfold fX12_newName_J16 at e
  refine mm_T.seg (f' := (18, [some (.ref 62), some (.int y1), some (.int y2), some (.int 0)], [])) (h' := (107, I, J, mm_rf rv sp rr w nw)) 2 rfl ?_
  refine mm_T.mask [true, true, true, true] ?_
  obtain ⟨o104, eo104, e⟩ := mm_bind e
  refine tlX12_newName_L18 d _ n y1 y2 0 I J rv sp rr w nw o104 eo104 ?_
  refine mm_T.mask [true, true, true, false] ?_
  exact tbX12_newName_J57 d n y1 y2 o104 J rv sp rr w nw out e
set_option maxRecDepth 100000 in
set_option maxHeartbeats 4000000 in
theorem tX12_newName (d n : Nat) (x1 : Int32) (x2 : Int32) (I : Nat → Nat → Int32) (J : Nat → Nat → Int64) (rv sp rr w nw : Nat) (out : (Nat → Nat → Int32) × (Nat → Nat → Int64)) (e : fX12_newName n x1 x2 I J = some out) : mm_T none (d + 2) 222 (mm_ent 222 [(.ref 62), (.int x1), (.int x2)]) (107, I, J, mm_rf rv sp rr w nw) (fun v h => v = none ∧ h = (107, out.1, out.2, mm_rf rv sp rr w nw)) := by
  unfold fX12_newName at e
  refine mm_T.seg (f' := (1, [some (.ref 62), some (.int x1), some (.int x2), none], [(.ref 62)])) (h' := (107, I, J, mm_rf rv sp rr w nw)) 1 rfl ?_
  obtain ⟨o94, eo94, e⟩ := mm_bind e
  refine mm_T.call (t := 214) (as := [(.ref 62)]) (f' := (4, [some (.ref 62), some (.int x1), some (.int x2), none], [])) rfl (tX12_token (d + 0) n I J rv sp rr w nw o94 eo94) (fun v h hq => ?_)
  obtain ⟨rfl, rfl⟩ := hq
  refine mm_T.seg (f' := (5, [some (.ref 62), some (.int x1), some (.int x2), none], [(.ref 62)])) (h' := (107, o94.1, o94.2, mm_rf rv sp rr w nw)) 1 rfl ?_
  obtain ⟨g13, hg13⟩ : ∃ z, fX12_isName o94.1 o94.2 = z := ⟨_, rfl⟩
  try rw [hg13] at e
  refine mm_T.call (t := 218) (as := [(.ref 62)]) (f' := (8, [some (.ref 62), some (.int x1), some (.int x2), none], [])) rfl (tX12_isName (d + 0) o94.1 o94.2 rv sp rr w nw g13 hg13) (fun v h hq => ?_)
  obtain ⟨rfl, rfl⟩ := hq
  refine mm_T.br (c := g13 = 0) (a := ((11, [some (.ref 62), some (.int x1), some (.int x2), none], []), (107, o94.1, o94.2, mm_rf rv sp rr w nw))) (b := ((16, [some (.ref 62), some (.int x1), some (.int x2), none], []), (107, o94.1, o94.2, mm_rf rv sp rr w nw))) rfl (fun h95 => ?_) (fun h95 => ?_)
  · rw [if_pos h95] at e
    refine mm_T.seg (f' := (13, [some (.ref 62), some (.int x1), some (.int x2), none], [(.int 2), (.ref 62)])) (h' := (107, o94.1, o94.2, mm_rf rv sp rr w nw)) 2 rfl ?_
    obtain ⟨g14, hg14⟩ : ∃ z, fX12_wrong 2 o94.1 = z := ⟨_, rfl⟩
    try rw [hg14] at e
    refine mm_T.call (t := 215) (as := [(.ref 62), (.int 2)]) (f' := (16, [some (.ref 62), some (.int x1), some (.int x2), none], [])) rfl (tX12_wrong (d + 1) 2 o94.1 o94.2 rv sp rr w nw g14 hg14) (fun v h hq => ?_)
    obtain ⟨rfl, rfl⟩ := hq
    refine mm_T.mask [true, true, true, false] ?_
    exact tbX12_newName_J16 d n x1 x2 g14 o94.2 rv sp rr w nw out e
  · rw [if_neg h95] at e
    refine mm_T.mask [true, true, true, false] ?_
    exact tbX12_newName_J16 d n x1 x2 o94.1 o94.2 rv sp rr w nw out e
set_option maxRecDepth 100000 in
set_option maxHeartbeats 4000000 in
theorem tX12_add (d : Nat) (x1 : Int32) (x2 : Int32) (I : Nat → Nat → Int32) (J : Nat → Nat → Int64) (rv sp rr w nw : Nat) (out : (Nat → Nat → Int32)) (e : fX12_add x1 x2 I = some out) : mm_T none (d + 0) 223 (mm_ent 223 [(.ref 62), (.int x1), (.int x2)]) (107, I, J, mm_rf rv sp rr w nw) (fun v h => v = none ∧ h = (107, out, J, mm_rf rv sp rr w nw)) := by
  unfold fX12_add at e
  refine mm_T.seg (f' := (4, [some (.ref 62), some (.int x1), some (.int x2)], [(.ref 65)])) (h' := (107, I, J, mm_rf rv sp rr w nw)) 2 rfl ?_
  refine mm_T.seg (f' := (9, [some (.ref 62), some (.int x1), some (.int x2)], [(.int x1), (.int (I 62 17)), (.ref 65)])) (h' := (107, I, J, mm_rf rv sp rr w nw)) 3 rfl ?_
  by_cases h108 : (I 62 17) < 0 ∨ 320 ≤ (I 62 17).toNatClampNeg
  · rw [if_pos h108] at e; cases e
  rw [if_neg h108] at e
  refine mm_T.guard (y := ((10, [some (.ref 62), some (.int x1), some (.int x2)], []), (107, (mm_up I 65 (I 62 17).toNatClampNeg x1), J, mm_rf rv sp rr w nw))) rfl h108 ?_
  refine mm_T.seg (f' := (14, [some (.ref 62), some (.int x1), some (.int x2)], [(.ref 66)])) (h' := (107, (mm_up I 65 (I 62 17).toNatClampNeg x1), J, mm_rf rv sp rr w nw)) 2 rfl ?_
  refine mm_T.seg (f' := (19, [some (.ref 62), some (.int x1), some (.int x2)], [(.int x2), (.int (I 62 17)), (.ref 66)])) (h' := (107, (mm_up I 65 (I 62 17).toNatClampNeg x1), J, mm_rf rv sp rr w nw)) 3 rfl ?_
  by_cases h109 : (I 62 17) < 0 ∨ 320 ≤ (I 62 17).toNatClampNeg
  · rw [if_pos h109] at e; cases e
  rw [if_neg h109] at e
  refine mm_T.guard (y := ((20, [some (.ref 62), some (.int x1), some (.int x2)], []), (107, (mm_up (mm_up I 65 (I 62 17).toNatClampNeg x1) 66 (I 62 17).toNatClampNeg x2), J, mm_rf rv sp rr w nw))) rfl h109 ?_
  refine mm_T.seg (f' := (30, [some (.ref 62), some (.int x1), some (.int x2)], [])) (h' := (107, (mm_up (mm_up (mm_up I 65 (I 62 17).toNatClampNeg x1) 66 (I 62 17).toNatClampNeg x2) 62 17 ((I 62 17) + 1)), J, mm_rf rv sp rr w nw)) 6 rfl ?_
  cases e
  exact mm_T.ret rfl ⟨rfl, rfl⟩
set_option maxRecDepth 100000 in
set_option maxHeartbeats 4000000 in
theorem tX12_tight (d : Nat) (x0 : Int32) (I : Nat → Nat → Int32) (J : Nat → Nat → Int64) (rv sp rr w nw : Nat) (out : Int32) (e : fX12_tight x0 = out) : mm_T none (d + 0) 224 (mm_ent 224 [(.int x0)]) (107, I, J, mm_rf rv sp rr w nw) (fun v h => v = some (.int out) ∧ h = (107, I, J, mm_rf rv sp rr w nw)) := by
  unfold fX12_tight at e
  refine mm_T.seg (f' := (1, [some (.int x0)], [(.int x0)])) (h' := (107, I, J, mm_rf rv sp rr w nw)) 1 rfl ?_
  by_cases h110 : x0 = 21
  · rw [if_pos h110] at e
    refine mm_T.step (f' := (80, [some (.int x0)], [])) (h' := (107, I, J, mm_rf rv sp rr w nw)) (by first | (rw [h110]; rfl) | exact absurd h110 (by decide)) ?_
    refine mm_T.seg (f' := (81, [some (.int x0)], [(.int 3)])) (h' := (107, I, J, mm_rf rv sp rr w nw)) 1 rfl ?_
    cases e
    exact mm_T.ret rfl ⟨rfl, rfl⟩
  · rw [if_neg h110] at e
    by_cases h111 : x0 = 38
    · rw [if_pos h111] at e
      refine mm_T.step (f' := (78, [some (.int x0)], [])) (h' := (107, I, J, mm_rf rv sp rr w nw)) (by first | (rw [h111]; rfl) | exact absurd h111 (by decide)) ?_
      refine mm_T.seg (f' := (79, [some (.int x0)], [(.int 2)])) (h' := (107, I, J, mm_rf rv sp rr w nw)) 1 rfl ?_
      cases e
      exact mm_T.ret rfl ⟨rfl, rfl⟩
    · rw [if_neg h111] at e
      by_cases h112 : x0 = 43
      · rw [if_pos h112] at e
        refine mm_T.step (f' := (84, [some (.int x0)], [])) (h' := (107, I, J, mm_rf rv sp rr w nw)) (by first | (rw [h112]; rfl) | exact absurd h112 (by decide)) ?_
        refine mm_T.seg (f' := (85, [some (.int x0)], [(.int 5)])) (h' := (107, I, J, mm_rf rv sp rr w nw)) 1 rfl ?_
        cases e
        exact mm_T.ret rfl ⟨rfl, rfl⟩
      · rw [if_neg h112] at e
        by_cases h113 : x0 = 45
        · rw [if_pos h113] at e
          refine mm_T.step (f' := (84, [some (.int x0)], [])) (h' := (107, I, J, mm_rf rv sp rr w nw)) (by first | (rw [h113]; rfl) | exact absurd h113 (by decide)) ?_
          refine mm_T.seg (f' := (85, [some (.int x0)], [(.int 5)])) (h' := (107, I, J, mm_rf rv sp rr w nw)) 1 rfl ?_
          cases e
          exact mm_T.ret rfl ⟨rfl, rfl⟩
        · rw [if_neg h113] at e
          by_cases h114 : x0 = 60
          · rw [if_pos h114] at e
            refine mm_T.step (f' := (82, [some (.int x0)], [])) (h' := (107, I, J, mm_rf rv sp rr w nw)) (by first | (rw [h114]; rfl) | exact absurd h114 (by decide)) ?_
            refine mm_T.seg (f' := (83, [some (.int x0)], [(.int 4)])) (h' := (107, I, J, mm_rf rv sp rr w nw)) 1 rfl ?_
            cases e
            exact mm_T.ret rfl ⟨rfl, rfl⟩
          · rw [if_neg h114] at e
            by_cases h115 : x0 = 61
            · rw [if_pos h115] at e
              refine mm_T.step (f' := (82, [some (.int x0)], [])) (h' := (107, I, J, mm_rf rv sp rr w nw)) (by first | (rw [h115]; rfl) | exact absurd h115 (by decide)) ?_
              refine mm_T.seg (f' := (83, [some (.int x0)], [(.int 4)])) (h' := (107, I, J, mm_rf rv sp rr w nw)) 1 rfl ?_
              cases e
              exact mm_T.ret rfl ⟨rfl, rfl⟩
            · rw [if_neg h115] at e
              by_cases h116 : x0 = 62
              · rw [if_pos h116] at e
                refine mm_T.step (f' := (82, [some (.int x0)], [])) (h' := (107, I, J, mm_rf rv sp rr w nw)) (by first | (rw [h116]; rfl) | exact absurd h116 (by decide)) ?_
                refine mm_T.seg (f' := (83, [some (.int x0)], [(.int 4)])) (h' := (107, I, J, mm_rf rv sp rr w nw)) 1 rfl ?_
                cases e
                exact mm_T.ret rfl ⟨rfl, rfl⟩
              · rw [if_neg h116] at e
                by_cases h117 : x0 = 124
                · rw [if_pos h117] at e
                  refine mm_T.step (f' := (76, [some (.int x0)], [])) (h' := (107, I, J, mm_rf rv sp rr w nw)) (by first | (rw [h117]; rfl) | exact absurd h117 (by decide)) ?_
                  refine mm_T.seg (f' := (77, [some (.int x0)], [(.int 1)])) (h' := (107, I, J, mm_rf rv sp rr w nw)) 1 rfl ?_
                  cases e
                  exact mm_T.ret rfl ⟨rfl, rfl⟩
                · rw [if_neg h117] at e
                  refine mm_T.step (f' := (86, [some (.int x0)], [])) (h' := (107, I, J, mm_rf rv sp rr w nw)) (by show mm_go (mm_tg 1 (Op.lookupswitch.offset [(21, 79), (38, 77), (43, 83), (45, 83), (60, 81), (61, 81), (62, 81), (124, 75)] 85 x0.toInt)) _ _ _ = _; rw [lv_osw (a := 21) h110 (by decide), lv_osw (a := 38) h111 (by decide), lv_osw (a := 43) h112 (by decide), lv_osw (a := 45) h113 (by decide), lv_osw (a := 60) h114 (by decide), lv_osw (a := 61) h115 (by decide), lv_osw (a := 62) h116 (by decide), lv_osw (a := 124) h117 (by decide)]; rfl) ?_
                  refine mm_T.seg (f' := (88, [some (.int x0)], [(.int 6)])) (h' := (107, I, J, mm_rf rv sp rr w nw)) 1 rfl ?_
                  cases e
                  exact mm_T.ret rfl ⟨rfl, rfl⟩
set_option maxRecDepth 100000 in
set_option maxHeartbeats 4000000 in
theorem tlX12_close_L0 (d : Nat) (Q : Option Value → mm_H → Prop) : ∀ (n : Nat) (y1 : Int32) (I : Nat → Nat → Int32) (J : Nat → Nat → Int64) (rv sp rr w nw : Nat), ∀ (out : (Nat → Nat → Int32)), fX12_close_L0 n y1 I = some out → mm_T none (d + 1) 225 (101, [none, none], []) (107, out, J, mm_rf rv sp rr w nw) Q → mm_T none (d + 1) 225 (0, [some (.ref 62), some (.int y1)], []) (107, I, J, mm_rf rv sp rr w nw) Q := by
  intro n
  induction n with
  | zero =>
    intro y1 I J rv sp rr w nw out e k
    rw [fX12_close_L0] at e; cases e
  | succ n ih =>
    intro y1 I J rv sp rr w nw out e k
    rw [fX12_close_L0] at e
    refine mm_T.seg (f' := (4, [some (.ref 62), some (.int y1)], [(.int (I 62 19))])) (h' := (107, I, J, mm_rf rv sp rr w nw)) 2 rfl ?_
    refine mm_T.br (c := 0 < (I 62 19)) (a := ((7, [some (.ref 62), some (.int y1)], []), (107, I, J, mm_rf rv sp rr w nw))) (b := ((101, [some (.ref 62), some (.int y1)], []), (107, I, J, mm_rf rv sp rr w nw))) rfl (fun h118 => ?_) (fun h118 => ?_)
    · rw [if_pos h118] at e
      refine mm_T.seg (f' := (11, [some (.ref 62), some (.int y1)], [(.ref 69)])) (h' := (107, I, J, mm_rf rv sp rr w nw)) 2 rfl ?_
      refine mm_T.seg (f' := (17, [some (.ref 62), some (.int y1)], [(.int ((I 62 19) - 1)), (.ref 69)])) (h' := (107, I, J, mm_rf rv sp rr w nw)) 4 rfl ?_
      by_cases h119 : ((I 62 19) - 1) < 0 ∨ 160 ≤ ((I 62 19) - 1).toNatClampNeg
      · rw [if_pos h119] at e; cases e
      rw [if_neg h119] at e
      refine mm_T.guard (c := ((I 62 19) - 1) < 0 ∨ 160 ≤ ((I 62 19) - 1).toNatClampNeg) (y := ((18, [some (.ref 62), some (.int y1)], [(.int (I 69 ((I 62 19) - 1).toNatClampNeg))]), (107, I, J, mm_rf rv sp rr w nw))) (mm_gen (P := fun z => mm_stp none 225 (17, [some (.ref 62), some (.int y1)], [(.int z), (.ref 69)]) (107, I, J, mm_rf rv sp rr w nw) = if z < 0 ∨ 160 ≤ z.toNatClampNeg then none else some (.inl ((18, [some (.ref 62), some (.int y1)], [(.int (I 69 z.toNatClampNeg))]), (107, I, J, mm_rf rv sp rr w nw)))) ((I 62 19) - 1) (fun z => rfl)) h119 ?_
      refine mm_T.seg (f' := (20, [some (.ref 62), some (.int y1)], [(.int 20), (.int (I 69 ((I 62 19) - 1).toNatClampNeg))])) (h' := (107, I, J, mm_rf rv sp rr w nw)) 1 rfl ?_
      refine mm_T.br (c := (I 69 ((I 62 19) - 1).toNatClampNeg) = 20) (a := ((101, [some (.ref 62), some (.int y1)], []), (107, I, J, mm_rf rv sp rr w nw))) (b := ((23, [some (.ref 62), some (.int y1)], []), (107, I, J, mm_rf rv sp rr w nw))) rfl (fun h120 => ?_) (fun h120 => ?_)
      · rw [if_pos h120] at e
        cases e
        refine mm_T.mask [false, false] ?_
        exact k
      · rw [if_neg h120] at e
        refine mm_T.seg (f' := (27, [some (.ref 62), some (.int y1)], [(.ref 69)])) (h' := (107, I, J, mm_rf rv sp rr w nw)) 2 rfl ?_
        refine mm_T.seg (f' := (33, [some (.ref 62), some (.int y1)], [(.int ((I 62 19) - 1)), (.ref 69)])) (h' := (107, I, J, mm_rf rv sp rr w nw)) 4 rfl ?_
        by_cases h121 : ((I 62 19) - 1) < 0 ∨ 160 ≤ ((I 62 19) - 1).toNatClampNeg
        · rw [if_pos h121] at e; cases e
        rw [if_neg h121] at e
        refine mm_T.guard (c := ((I 62 19) - 1) < 0 ∨ 160 ≤ ((I 62 19) - 1).toNatClampNeg) (y := ((34, [some (.ref 62), some (.int y1)], [(.int (I 69 ((I 62 19) - 1).toNatClampNeg))]), (107, I, J, mm_rf rv sp rr w nw))) (mm_gen (P := fun z => mm_stp none 225 (33, [some (.ref 62), some (.int y1)], [(.int z), (.ref 69)]) (107, I, J, mm_rf rv sp rr w nw) = if z < 0 ∨ 160 ≤ z.toNatClampNeg then none else some (.inl ((34, [some (.ref 62), some (.int y1)], [(.int (I 69 z.toNatClampNeg))]), (107, I, J, mm_rf rv sp rr w nw)))) ((I 62 19) - 1) (fun z => rfl)) h121 ?_
        obtain ⟨g17, hg17⟩ : ∃ z, fX12_tight (I 69 ((I 62 19) - 1).toNatClampNeg) = z := ⟨_, rfl⟩
        try rw [hg17] at e
        refine mm_T.call (t := 224) (as := [(.int (I 69 ((I 62 19) - 1).toNatClampNeg))]) (f' := (37, [some (.ref 62), some (.int y1)], [])) rfl (tX12_tight (d + 0) (I 69 ((I 62 19) - 1).toNatClampNeg) I J rv sp rr w nw g17 hg17) (fun v h hq => ?_)
        obtain ⟨rfl, rfl⟩ := hq
        refine mm_T.seg (f' := (38, [some (.ref 62), some (.int y1)], [(.int y1), (.int g17)])) (h' := (107, I, J, mm_rf rv sp rr w nw)) 1 rfl ?_
        refine mm_T.br (c := g17 < y1) (a := ((101, [some (.ref 62), some (.int y1)], []), (107, I, J, mm_rf rv sp rr w nw))) (b := ((41, [some (.ref 62), some (.int y1)], []), (107, I, J, mm_rf rv sp rr w nw))) rfl (fun h122 => ?_) (fun h122 => ?_)
        · rw [if_pos h122] at e
          cases e
          refine mm_T.mask [false, false] ?_
          exact k
        · rw [if_neg h122] at e
          refine mm_T.seg (f' := (55, [some (.ref 62), some (.int y1)], [(.ref 69)])) (h' := (107, (mm_up I 62 19 ((I 62 19) - 1)), J, mm_rf rv sp rr w nw)) 8 rfl ?_
          refine mm_T.seg (f' := (59, [some (.ref 62), some (.int y1)], [(.int ((I 62 19) - 1)), (.ref 69)])) (h' := (107, (mm_up I 62 19 ((I 62 19) - 1)), J, mm_rf rv sp rr w nw)) 2 rfl ?_
          by_cases h123 : ((I 62 19) - 1) < 0 ∨ 160 ≤ ((I 62 19) - 1).toNatClampNeg
          · rw [if_pos h123] at e; cases e
          rw [if_neg h123] at e
          refine mm_T.guard (c := ((I 62 19) - 1) < 0 ∨ 160 ≤ ((I 62 19) - 1).toNatClampNeg) (y := ((60, [some (.ref 62), some (.int y1)], [(.int (I 69 ((I 62 19) - 1).toNatClampNeg))]), (107, (mm_up I 62 19 ((I 62 19) - 1)), J, mm_rf rv sp rr w nw))) (mm_gen (P := fun z => mm_stp none 225 (59, [some (.ref 62), some (.int y1)], [(.int z), (.ref 69)]) (107, (mm_up I 62 19 z), J, mm_rf rv sp rr w nw) = if z < 0 ∨ 160 ≤ z.toNatClampNeg then none else some (.inl ((60, [some (.ref 62), some (.int y1)], [(.int (I 69 z.toNatClampNeg))]), (107, (mm_up I 62 19 z), J, mm_rf rv sp rr w nw)))) ((I 62 19) - 1) (fun z => rfl)) h123 ?_
          refine mm_T.seg (f' := (62, [some (.ref 62), some (.int y1)], [(.int 21), (.int (I 69 ((I 62 19) - 1).toNatClampNeg))])) (h' := (107, (mm_up I 62 19 ((I 62 19) - 1)), J, mm_rf rv sp rr w nw)) 1 rfl ?_
          refine mm_T.br (c := (I 69 ((I 62 19) - 1).toNatClampNeg) = 21) (a := ((65, [some (.ref 62), some (.int y1)], []), (107, (mm_up I 62 19 ((I 62 19) - 1)), J, mm_rf rv sp rr w nw))) (b := ((84, [some (.ref 62), some (.int y1)], []), (107, (mm_up I 62 19 ((I 62 19) - 1)), J, mm_rf rv sp rr w nw))) rfl (fun h124 => ?_) (fun h124 => ?_)
          · rw [if_pos h124] at e
            refine mm_T.seg (f' := (68, [some (.ref 62), some (.int y1)], [(.int 0), (.int 2), (.ref 62)])) (h' := (107, (mm_up I 62 19 ((I 62 19) - 1)), J, mm_rf rv sp rr w nw)) 3 rfl ?_
            obtain ⟨o125, eo125, e⟩ := mm_bind e
            refine mm_T.call (t := 223) (as := [(.ref 62), (.int 2), (.int 0)]) (f' := (71, [some (.ref 62), some (.int y1)], [])) rfl (tX12_add (d + 0) 2 0 (mm_up I 62 19 ((I 62 19) - 1)) J rv sp rr w nw o125 eo125) (fun v h hq => ?_)
            obtain ⟨rfl, rfl⟩ := hq
            refine mm_T.seg (f' := (0, [some (.ref 62), some (.int y1)], [])) (h' := (107, (mm_up o125 62 23 ((o125 62 23) - 1)), J, mm_rf rv sp rr w nw)) 7 rfl ?_
            refine mm_T.mask [true, true] ?_
            exact ih y1 (mm_up o125 62 23 ((o125 62 23) - 1)) J rv sp rr w nw out e k
          · rw [if_neg h124] at e
            refine mm_T.seg (f' := (90, [some (.ref 62), some (.int y1)], [(.ref 69), (.int 3), (.ref 62)])) (h' := (107, (mm_up I 62 19 ((I 62 19) - 1)), J, mm_rf rv sp rr w nw)) 4 rfl ?_
            refine mm_T.seg (f' := (94, [some (.ref 62), some (.int y1)], [(.int ((I 62 19) - 1)), (.ref 69), (.int 3), (.ref 62)])) (h' := (107, (mm_up I 62 19 ((I 62 19) - 1)), J, mm_rf rv sp rr w nw)) 2 rfl ?_
            by_cases h126 : ((I 62 19) - 1) < 0 ∨ 160 ≤ ((I 62 19) - 1).toNatClampNeg
            · rw [if_pos h126] at e; cases e
            rw [if_neg h126] at e
            refine mm_T.guard (c := ((I 62 19) - 1) < 0 ∨ 160 ≤ ((I 62 19) - 1).toNatClampNeg) (y := ((95, [some (.ref 62), some (.int y1)], [(.int (I 69 ((I 62 19) - 1).toNatClampNeg)), (.int 3), (.ref 62)]), (107, (mm_up I 62 19 ((I 62 19) - 1)), J, mm_rf rv sp rr w nw))) (mm_gen (P := fun z => mm_stp none 225 (94, [some (.ref 62), some (.int y1)], [(.int z), (.ref 69), (.int 3), (.ref 62)]) (107, (mm_up I 62 19 z), J, mm_rf rv sp rr w nw) = if z < 0 ∨ 160 ≤ z.toNatClampNeg then none else some (.inl ((95, [some (.ref 62), some (.int y1)], [(.int (I 69 z.toNatClampNeg)), (.int 3), (.ref 62)]), (107, (mm_up I 62 19 z), J, mm_rf rv sp rr w nw)))) ((I 62 19) - 1) (fun z => rfl)) h126 ?_
            obtain ⟨o127, eo127, e⟩ := mm_bind e
            refine mm_T.call (t := 223) (as := [(.ref 62), (.int 3), (.int (I 69 ((I 62 19) - 1).toNatClampNeg))]) (f' := (98, [some (.ref 62), some (.int y1)], [])) rfl (tX12_add (d + 0) 3 (I 69 ((I 62 19) - 1).toNatClampNeg) (mm_up I 62 19 ((I 62 19) - 1)) J rv sp rr w nw o127 eo127) (fun v h hq => ?_)
            obtain ⟨rfl, rfl⟩ := hq
            refine mm_T.seg (f' := (0, [some (.ref 62), some (.int y1)], [])) (h' := (107, o127, J, mm_rf rv sp rr w nw)) 1 rfl ?_
            refine mm_T.mask [true, true] ?_
            exact ih y1 o127 J rv sp rr w nw out e k
    · rw [if_neg h118] at e
      cases e
      refine mm_T.mask [false, false] ?_
      exact k
set_option maxRecDepth 100000 in
set_option maxHeartbeats 4000000 in
theorem tX12_close (d n : Nat) (x1 : Int32) (I : Nat → Nat → Int32) (J : Nat → Nat → Int64) (rv sp rr w nw : Nat) (out : (Nat → Nat → Int32)) (e : fX12_close n x1 I = some out) : mm_T none (d + 1) 225 (mm_ent 225 [(.ref 62), (.int x1)]) (107, I, J, mm_rf rv sp rr w nw) (fun v h => v = none ∧ h = (107, out, J, mm_rf rv sp rr w nw)) := by
  unfold fX12_close at e
  refine mm_T.mask [true, true] ?_
  obtain ⟨o128, eo128, e⟩ := mm_bind e
  refine tlX12_close_L0 d _ n x1 I J rv sp rr w nw o128 eo128 ?_
  cases e
  exact mm_T.ret rfl ⟨rfl, rfl⟩
set_option maxRecDepth 100000 in
set_option maxHeartbeats 4000000 in
theorem tlX12_hasRelation_L7 (d : Nat) (Q : Option Value → mm_H → Prop) : ∀ (n : Nat) (y1 : Int32) (I : Nat → Nat → Int32) (J : Nat → Nat → Int64) (rv sp rr w nw : Nat), ∀ (out : Int32), fX12_hasRelation_L7 n y1 I = some out → mm_T none (d + 1) 226 (41, [some (.ref 62), some (.int out)], []) (107, I, J, mm_rf rv sp rr w nw) Q → mm_T none (d + 1) 226 (7, [some (.ref 62), some (.int y1)], []) (107, I, J, mm_rf rv sp rr w nw) Q := by
  intro n
  induction n with
  | zero =>
    intro y1 I J rv sp rr w nw out e k
    rw [fX12_hasRelation_L7] at e; cases e
  | succ n ih =>
    intro y1 I J rv sp rr w nw out e k
    rw [fX12_hasRelation_L7] at e
    refine mm_T.seg (f' := (8, [some (.ref 62), some (.int y1)], [(.int y1)])) (h' := (107, I, J, mm_rf rv sp rr w nw)) 1 rfl ?_
    refine mm_T.br (c := y1 < 0) (a := ((41, [some (.ref 62), some (.int y1)], []), (107, I, J, mm_rf rv sp rr w nw))) (b := ((11, [some (.ref 62), some (.int y1)], []), (107, I, J, mm_rf rv sp rr w nw))) rfl (fun h134 => ?_) (fun h134 => ?_)
    · rw [if_pos h134] at e
      cases e
      refine mm_T.mask [true, true] ?_
      exact k
    · rw [if_neg h134] at e
      refine mm_T.seg (f' := (15, [some (.ref 62), some (.int y1)], [(.ref 69)])) (h' := (107, I, J, mm_rf rv sp rr w nw)) 2 rfl ?_
      refine mm_T.seg (f' := (16, [some (.ref 62), some (.int y1)], [(.int y1), (.ref 69)])) (h' := (107, I, J, mm_rf rv sp rr w nw)) 1 rfl ?_
      by_cases h135 : y1 < 0 ∨ 160 ≤ y1.toNatClampNeg
      · rw [if_pos h135] at e; cases e
      rw [if_neg h135] at e
      refine mm_T.guard (y := ((17, [some (.ref 62), some (.int y1)], [(.int (I 69 y1.toNatClampNeg))]), (107, I, J, mm_rf rv sp rr w nw))) rfl h135 ?_
      refine mm_T.seg (f' := (19, [some (.ref 62), some (.int y1)], [(.int 20), (.int (I 69 y1.toNatClampNeg))])) (h' := (107, I, J, mm_rf rv sp rr w nw)) 1 rfl ?_
      refine mm_T.br (c := (I 69 y1.toNatClampNeg) = 20) (a := ((41, [some (.ref 62), some (.int y1)], []), (107, I, J, mm_rf rv sp rr w nw))) (b := ((22, [some (.ref 62), some (.int y1)], []), (107, I, J, mm_rf rv sp rr w nw))) rfl (fun h136 => ?_) (fun h136 => ?_)
      · rw [if_pos h136] at e
        cases e
        refine mm_T.mask [true, true] ?_
        exact k
      · rw [if_neg h136] at e
        refine mm_T.seg (f' := (26, [some (.ref 62), some (.int y1)], [(.ref 69)])) (h' := (107, I, J, mm_rf rv sp rr w nw)) 2 rfl ?_
        refine mm_T.seg (f' := (27, [some (.ref 62), some (.int y1)], [(.int y1), (.ref 69)])) (h' := (107, I, J, mm_rf rv sp rr w nw)) 1 rfl ?_
        by_cases h137 : y1 < 0 ∨ 160 ≤ y1.toNatClampNeg
        · rw [if_pos h137] at e; cases e
        rw [if_neg h137] at e
        refine mm_T.guard (y := ((28, [some (.ref 62), some (.int y1)], [(.int (I 69 y1.toNatClampNeg))]), (107, I, J, mm_rf rv sp rr w nw))) rfl h137 ?_
        obtain ⟨g19, hg19⟩ : ∃ z, fX12_tight (I 69 y1.toNatClampNeg) = z := ⟨_, rfl⟩
        try rw [hg19] at e
        refine mm_T.call (t := 224) (as := [(.int (I 69 y1.toNatClampNeg))]) (f' := (31, [some (.ref 62), some (.int y1)], [])) rfl (tX12_tight (d + 0) (I 69 y1.toNatClampNeg) I J rv sp rr w nw g19 hg19) (fun v h hq => ?_)
        obtain ⟨rfl, rfl⟩ := hq
        refine mm_T.seg (f' := (32, [some (.ref 62), some (.int y1)], [(.int 4), (.int g19)])) (h' := (107, I, J, mm_rf rv sp rr w nw)) 1 rfl ?_
        refine mm_T.br (c := 4 < g19) (a := ((35, [some (.ref 62), some (.int y1)], []), (107, I, J, mm_rf rv sp rr w nw))) (b := ((41, [some (.ref 62), some (.int y1)], []), (107, I, J, mm_rf rv sp rr w nw))) rfl (fun h138 => ?_) (fun h138 => ?_)
        · rw [if_pos h138] at e
          refine mm_T.seg (f' := (7, [some (.ref 62), some (.int (y1 + (-1)))], [])) (h' := (107, I, J, mm_rf rv sp rr w nw)) 2 rfl ?_
          refine mm_T.mask [true, true] ?_
          exact ih (y1 + (-1)) I J rv sp rr w nw out e k
        · rw [if_neg h138] at e
          cases e
          refine mm_T.mask [true, true] ?_
          exact k
set_option maxRecDepth 100000 in
set_option maxHeartbeats 4000000 in
theorem tX12_hasRelation (d n : Nat) (I : Nat → Nat → Int32) (J : Nat → Nat → Int64) (rv sp rr w nw : Nat) (out : Int32) (e : fX12_hasRelation n I = some out) : mm_T none (d + 1) 226 (mm_ent 226 [(.ref 62)]) (107, I, J, mm_rf rv sp rr w nw) (fun v h => v = some (.int out) ∧ h = (107, I, J, mm_rf rv sp rr w nw)) := by
  unfold fX12_hasRelation at e
  refine mm_T.seg (f' := (7, [some (.ref 62), some (.int ((I 62 19) - 1))], [])) (h' := (107, I, J, mm_rf rv sp rr w nw)) 5 rfl ?_
  refine mm_T.mask [true, true] ?_
  obtain ⟨o139, eo139, e⟩ := mm_bind e
  refine tlX12_hasRelation_L7 d _ n ((I 62 19) - 1) I J rv sp rr w nw o139 eo139 ?_
  refine mm_T.seg (f' := (42, [some (.ref 62), some (.int o139)], [(.int o139)])) (h' := (107, I, J, mm_rf rv sp rr w nw)) 1 rfl ?_
  refine mm_T.br (c := o139 < 0) (a := ((73, [some (.ref 62), some (.int o139)], []), (107, I, J, mm_rf rv sp rr w nw))) (b := ((45, [some (.ref 62), some (.int o139)], []), (107, I, J, mm_rf rv sp rr w nw))) rfl (fun h140 => ?_) (fun h140 => ?_)
  · rw [if_pos h140] at e
    refine mm_T.seg (f' := (74, [some (.ref 62), some (.int o139)], [(.int 0)])) (h' := (107, I, J, mm_rf rv sp rr w nw)) 1 rfl ?_
    cases e
    exact mm_T.ret rfl ⟨rfl, rfl⟩
  · rw [if_neg h140] at e
    refine mm_T.seg (f' := (49, [some (.ref 62), some (.int o139)], [(.ref 69)])) (h' := (107, I, J, mm_rf rv sp rr w nw)) 2 rfl ?_
    refine mm_T.seg (f' := (50, [some (.ref 62), some (.int o139)], [(.int o139), (.ref 69)])) (h' := (107, I, J, mm_rf rv sp rr w nw)) 1 rfl ?_
    by_cases h141 : o139 < 0 ∨ 160 ≤ o139.toNatClampNeg
    · rw [if_pos h141] at e; cases e
    rw [if_neg h141] at e
    refine mm_T.guard (y := ((51, [some (.ref 62), some (.int o139)], [(.int (I 69 o139.toNatClampNeg))]), (107, I, J, mm_rf rv sp rr w nw))) rfl h141 ?_
    refine mm_T.seg (f' := (53, [some (.ref 62), some (.int o139)], [(.int 20), (.int (I 69 o139.toNatClampNeg))])) (h' := (107, I, J, mm_rf rv sp rr w nw)) 1 rfl ?_
    refine mm_T.br (c := (I 69 o139.toNatClampNeg) = 20) (a := ((73, [some (.ref 62), some (.int o139)], []), (107, I, J, mm_rf rv sp rr w nw))) (b := ((56, [some (.ref 62), some (.int o139)], []), (107, I, J, mm_rf rv sp rr w nw))) rfl (fun h142 => ?_) (fun h142 => ?_)
    · rw [if_pos h142] at e
      refine mm_T.seg (f' := (74, [some (.ref 62), some (.int o139)], [(.int 0)])) (h' := (107, I, J, mm_rf rv sp rr w nw)) 1 rfl ?_
      cases e
      exact mm_T.ret rfl ⟨rfl, rfl⟩
    · rw [if_neg h142] at e
      refine mm_T.seg (f' := (60, [some (.ref 62), some (.int o139)], [(.ref 69)])) (h' := (107, I, J, mm_rf rv sp rr w nw)) 2 rfl ?_
      refine mm_T.seg (f' := (61, [some (.ref 62), some (.int o139)], [(.int o139), (.ref 69)])) (h' := (107, I, J, mm_rf rv sp rr w nw)) 1 rfl ?_
      by_cases h143 : o139 < 0 ∨ 160 ≤ o139.toNatClampNeg
      · rw [if_pos h143] at e; cases e
      rw [if_neg h143] at e
      refine mm_T.guard (y := ((62, [some (.ref 62), some (.int o139)], [(.int (I 69 o139.toNatClampNeg))]), (107, I, J, mm_rf rv sp rr w nw))) rfl h143 ?_
      obtain ⟨g20, hg20⟩ : ∃ z, fX12_tight (I 69 o139.toNatClampNeg) = z := ⟨_, rfl⟩
      try rw [hg20] at e
      refine mm_T.call (t := 224) (as := [(.int (I 69 o139.toNatClampNeg))]) (f' := (65, [some (.ref 62), some (.int o139)], [])) rfl (tX12_tight (d + 0) (I 69 o139.toNatClampNeg) I J rv sp rr w nw g20 hg20) (fun v h hq => ?_)
      obtain ⟨rfl, rfl⟩ := hq
      refine mm_T.seg (f' := (66, [some (.ref 62), some (.int o139)], [(.int 4), (.int g20)])) (h' := (107, I, J, mm_rf rv sp rr w nw)) 1 rfl ?_
      refine mm_T.br (c := g20 = 4) (a := ((69, [some (.ref 62), some (.int o139)], []), (107, I, J, mm_rf rv sp rr w nw))) (b := ((73, [some (.ref 62), some (.int o139)], []), (107, I, J, mm_rf rv sp rr w nw))) rfl (fun h144 => ?_) (fun h144 => ?_)
      · rw [if_pos h144] at e
        refine mm_T.seg (f' := (74, [some (.ref 62), some (.int o139)], [(.int 1)])) (h' := (107, I, J, mm_rf rv sp rr w nw)) 2 rfl ?_
        cases e
        exact mm_T.ret rfl ⟨rfl, rfl⟩
      · rw [if_neg h144] at e
        refine mm_T.seg (f' := (74, [some (.ref 62), some (.int o139)], [(.int 0)])) (h' := (107, I, J, mm_rf rv sp rr w nw)) 1 rfl ?_
        cases e
        exact mm_T.ret rfl ⟨rfl, rfl⟩
