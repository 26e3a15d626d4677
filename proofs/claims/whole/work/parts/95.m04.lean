set_option maxRecDepth 100000 in
set_option maxHeartbeats 4000000 in
theorem tX12_spot (d : Nat) (x1 : Int32) (x2 : Int32) (x3 : Int32) (I : Nat → Nat → Int32) (J : Nat → Nat → Int64) (rv sp rr w nw : Nat) (out : Int32) (e : fX12_spot x1 x2 x3 I = some out) : mm_T none (d + 1) 265 (mm_ent 265 [(.ref 62), (.int x1), (.int x2), (.int x3)]) (107, I, J, mm_rf rv sp rr w nw) (fun v h => v = some (.int out) ∧ h = (107, I, J, mm_rf rv sp rr w nw)) := by
  unfold fX12_spot at e
  refine mm_T.seg (f' := (8, [some (.ref 62), some (.int x1), some (.int x2), some (.int x3)], [(.int ((I 62 46) - 1)), (.int 0), (.int x1)])) (h' := (107, I, J, mm_rf rv sp rr w nw)) 6 rfl ?_
  obtain ⟨g131, hg131⟩ : ∃ z, fX12_isIn x1 0 ((I 62 46) - 1) = z := ⟨_, rfl⟩
  try rw [hg131] at e
  refine mm_T.call (t := 252) (as := [(.int x1), (.int 0), (.int ((I 62 46) - 1))]) (f' := (11, [some (.ref 62), some (.int x1), some (.int x2), some (.int x3)], [])) rfl (tX12_isIn (d + 0) x1 0 ((I 62 46) - 1) I J rv sp rr w nw g131 hg131) (fun v h hq => ?_)
  obtain ⟨rfl, rfl⟩ := hq
  refine mm_T.br (c := g131 = 0) (a := ((35, [some (.ref 62), some (.int x1), some (.int x2), some (.int x3)], []), (107, I, J, mm_rf rv sp rr w nw))) (b := ((14, [some (.ref 62), some (.int x1), some (.int x2), some (.int x3)], []), (107, I, J, mm_rf rv sp rr w nw))) rfl (fun h579 => ?_) (fun h579 => ?_)
  · rw [if_pos h579] at e
    refine mm_T.seg (f' := (36, [some (.ref 62), some (.int x1), some (.int x2), some (.int x3)], [(.int (-1))])) (h' := (107, I, J, mm_rf rv sp rr w nw)) 1 rfl ?_
    cases e
    exact mm_T.ret rfl ⟨rfl, rfl⟩
  · rw [if_neg h579] at e
    refine mm_T.seg (f' := (20, [some (.ref 62), some (.int x1), some (.int x2), some (.int x3)], [(.int (I 62 47)), (.int 0), (.int x2)])) (h' := (107, I, J, mm_rf rv sp rr w nw)) 4 rfl ?_
    obtain ⟨g132, hg132⟩ : ∃ z, fX12_isIn x2 0 (I 62 47) = z := ⟨_, rfl⟩
    try rw [hg132] at e
    refine mm_T.call (t := 252) (as := [(.int x2), (.int 0), (.int (I 62 47))]) (f' := (23, [some (.ref 62), some (.int x1), some (.int x2), some (.int x3)], [])) rfl (tX12_isIn (d + 0) x2 0 (I 62 47) I J rv sp rr w nw g132 hg132) (fun v h hq => ?_)
    obtain ⟨rfl, rfl⟩ := hq
    refine mm_T.br (c := g132 = 0) (a := ((35, [some (.ref 62), some (.int x1), some (.int x2), some (.int x3)], []), (107, I, J, mm_rf rv sp rr w nw))) (b := ((26, [some (.ref 62), some (.int x1), some (.int x2), some (.int x3)], []), (107, I, J, mm_rf rv sp rr w nw))) rfl (fun h580 => ?_) (fun h580 => ?_)
    · rw [if_pos h580] at e
      refine mm_T.seg (f' := (36, [some (.ref 62), some (.int x1), some (.int x2), some (.int x3)], [(.int (-1))])) (h' := (107, I, J, mm_rf rv sp rr w nw)) 1 rfl ?_
      cases e
      exact mm_T.ret rfl ⟨rfl, rfl⟩
    · rw [if_neg h580] at e
      refine mm_T.seg (f' := (29, [some (.ref 62), some (.int x1), some (.int x2), some (.int x3)], [(.int 1), (.int 0), (.int x3)])) (h' := (107, I, J, mm_rf rv sp rr w nw)) 3 rfl ?_
      obtain ⟨g133, hg133⟩ : ∃ z, fX12_isIn x3 0 1 = z := ⟨_, rfl⟩
      try rw [hg133] at e
      refine mm_T.call (t := 252) (as := [(.int x3), (.int 0), (.int 1)]) (f' := (32, [some (.ref 62), some (.int x1), some (.int x2), some (.int x3)], [])) rfl (tX12_isIn (d + 0) x3 0 1 I J rv sp rr w nw g133 hg133) (fun v h hq => ?_)
      obtain ⟨rfl, rfl⟩ := hq
      refine mm_T.br (c := g133 = 0) (a := ((35, [some (.ref 62), some (.int x1), some (.int x2), some (.int x3)], []), (107, I, J, mm_rf rv sp rr w nw))) (b := ((37, [some (.ref 62), some (.int x1), some (.int x2), some (.int x3)], []), (107, I, J, mm_rf rv sp rr w nw))) rfl (fun h581 => ?_) (fun h581 => ?_)
      · rw [if_pos h581] at e
        refine mm_T.seg (f' := (36, [some (.ref 62), some (.int x1), some (.int x2), some (.int x3)], [(.int (-1))])) (h' := (107, I, J, mm_rf rv sp rr w nw)) 1 rfl ?_
        cases e
        exact mm_T.ret rfl ⟨rfl, rfl⟩
      · rw [if_neg h581] at e
        refine mm_T.seg (f' := (38, [some (.ref 62), some (.int x1), some (.int x2), some (.int x3)], [(.int x3)])) (h' := (107, I, J, mm_rf rv sp rr w nw)) 1 rfl ?_
        refine mm_T.br (c := x3 = 0) (a := ((41, [some (.ref 62), some (.int x1), some (.int x2), some (.int x3)], []), (107, I, J, mm_rf rv sp rr w nw))) (b := ((50, [some (.ref 62), some (.int x1), some (.int x2), some (.int x3)], []), (107, I, J, mm_rf rv sp rr w nw))) rfl (fun h582 => ?_) (fun h582 => ?_)
        · rw [if_pos h582] at e
          refine mm_T.seg (f' := (44, [some (.ref 62), some (.int x1), some (.int x2), some (.int x3)], [(.int x2), (.int x1), (.ref 62)])) (h' := (107, I, J, mm_rf rv sp rr w nw)) 3 rfl ?_
          obtain ⟨o583, eo583, e⟩ := mm_bind e
          refine mm_T.call (t := 258) (as := [(.ref 62), (.int x1), (.int x2)]) (f' := (47, [some (.ref 62), some (.int x1), some (.int x2), some (.int x3)], [])) rfl (tX12_currentAt (d + 0) x1 x2 I J rv sp rr w nw o583 eo583) (fun v h hq => ?_)
          obtain ⟨rfl, rfl⟩ := hq
          refine mm_T.seg (f' := (59, [some (.ref 62), some (.int x1), some (.int x2), some (.int x3)], [(.int o583)])) (h' := (107, I, J, mm_rf rv sp rr w nw)) 1 rfl ?_
          cases e
          exact mm_T.ret rfl ⟨rfl, rfl⟩
        · rw [if_neg h582] at e
          refine mm_T.seg (f' := (53, [some (.ref 62), some (.int x1), some (.int x2), some (.int x3)], [(.int x2), (.int x1), (.ref 62)])) (h' := (107, I, J, mm_rf rv sp rr w nw)) 3 rfl ?_
          obtain ⟨o584, eo584, e⟩ := mm_bind e
          refine mm_T.call (t := 260) (as := [(.ref 62), (.int x1), (.int x2)]) (f' := (56, [some (.ref 62), some (.int x1), some (.int x2), some (.int x3)], [])) rfl (tX12_isIron (d + 0) x1 x2 I J rv sp rr w nw o584 eo584) (fun v h hq => ?_)
          obtain ⟨rfl, rfl⟩ := hq
          obtain ⟨g134, hg134⟩ : ∃ z, fX12_truth o584 = z := ⟨_, rfl⟩
          try rw [hg134] at e
          refine mm_T.call (t := 236) (as := [(.int o584)]) (f' := (59, [some (.ref 62), some (.int x1), some (.int x2), some (.int x3)], [])) rfl (tX12_truth (d + 0) o584 I J rv sp rr w nw g134 hg134) (fun v h hq => ?_)
          obtain ⟨rfl, rfl⟩ := hq
          cases e
          exact mm_T.ret rfl ⟨rfl, rfl⟩
set_option maxRecDepth 100000 in
set_option maxHeartbeats 4000000 in
theorem tX12_hotter (d n : Nat) (x1 : Int32) (I : Nat → Nat → Int32) (J : Nat → Nat → Int64) (rv sp rr w nw : Nat) (out : Int32 × (Nat → Nat → Int32)) (e : fX12_hotter n x1 I = some out) : mm_T none (d + 3) 266 (mm_ent 266 [(.ref 62), (.int x1)]) (107, I, J, mm_rf rv sp rr w nw) (fun v h => v = some (.int out.1) ∧ h = (107, out.2, J, mm_rf rv sp rr w nw)) := by
  unfold fX12_hotter at e
  refine mm_T.seg (f' := (1, [some (.ref 62), some (.int x1)], [(.ref 62)])) (h' := (107, I, J, mm_rf rv sp rr w nw)) 1 rfl ?_
  obtain ⟨o585, eo585, e⟩ := mm_bind e
  refine mm_T.call (t := 256) (as := [(.ref 62)]) (f' := (4, [some (.ref 62), some (.int x1)], [])) rfl (tX12_fill (d + 2) n I J rv sp rr w nw o585 eo585) (fun v h hq => ?_)
  obtain ⟨rfl, rfl⟩ := hq
  refine mm_T.seg (f' := (6, [some (.ref 62), some (.int x1)], [(.int x1), (.ref 62)])) (h' := (107, o585, J, mm_rf rv sp rr w nw)) 2 rfl ?_
  obtain ⟨o586, eo586, e⟩ := mm_bind e
  refine mm_T.call (t := 253) (as := [(.ref 62), (.int x1)]) (f' := (9, [some (.ref 62), some (.int x1)], [])) rfl (tX12_isBoard (d + 1) x1 o585 J rv sp rr w nw o586 eo586) (fun v h hq => ?_)
  obtain ⟨rfl, rfl⟩ := hq
  refine mm_T.br (c := o586 = 0) (a := ((20, [some (.ref 62), some (.int x1)], []), (107, o585, J, mm_rf rv sp rr w nw))) (b := ((12, [some (.ref 62), some (.int x1)], []), (107, o585, J, mm_rf rv sp rr w nw))) rfl (fun h587 => ?_) (fun h587 => ?_)
  · rw [if_pos h587] at e
    refine mm_T.seg (f' := (21, [some (.ref 62), some (.int x1)], [(.int (-1))])) (h' := (107, o585, J, mm_rf rv sp rr w nw)) 1 rfl ?_
    cases e
    exact mm_T.ret rfl ⟨rfl, rfl⟩
  · rw [if_neg h587] at e
    refine mm_T.seg (f' := (14, [some (.ref 62), some (.int x1)], [(.int x1), (.ref 62)])) (h' := (107, o585, J, mm_rf rv sp rr w nw)) 2 rfl ?_
    obtain ⟨o588, eo588, e⟩ := mm_bind e
    refine mm_T.call (t := 241) (as := [(.ref 62), (.int x1)]) (f' := (17, [some (.ref 62), some (.int x1)], [])) rfl (tX12_hotterOf (d + 0) n x1 o585 J rv sp rr w nw o588 eo588) (fun v h hq => ?_)
    obtain ⟨rfl, rfl⟩ := hq
    refine mm_T.seg (f' := (21, [some (.ref 62), some (.int x1)], [(.int o588.1)])) (h' := (107, o588.2, J, mm_rf rv sp rr w nw)) 1 rfl ?_
    cases e
    exact mm_T.ret rfl ⟨rfl, rfl⟩
set_option maxRecDepth 100000 in
set_option maxHeartbeats 4000000 in
theorem tlX12_act_L11 (d : Nat) (Q : Option Value → mm_H → Prop) : ∀ (n : Nat) (y1 : Int32) (I : Nat → Nat → Int32) (J : Nat → Nat → Int64) (rv sp rr w nw : Nat), ∀ (out : (Nat → Nat → Int32)), fX12_act_L11 n y1 I = some out → mm_T none (d + 1) 267 (39, [some (.ref 62), none], []) (107, out, J, mm_rf rv sp rr w nw) Q → mm_T none (d + 1) 267 (11, [some (.ref 62), some (.int y1)], []) (107, I, J, mm_rf rv sp rr w nw) Q := by
  intro n
  induction n with
  | zero =>
    intro y1 I J rv sp rr w nw out e k
    rw [fX12_act_L11] at e; cases e
  | succ n ih =>
    intro y1 I J rv sp rr w nw out e k
    rw [fX12_act_L11] at e
    refine mm_T.seg (f' := (15, [some (.ref 62), some (.int y1)], [(.int 1092), (.int y1)])) (h' := (107, I, J, mm_rf rv sp rr w nw)) 2 rfl ?_
    refine mm_T.br (c := y1 < 1092) (a := ((18, [some (.ref 62), some (.int y1)], []), (107, I, J, mm_rf rv sp rr w nw))) (b := ((39, [some (.ref 62), some (.int y1)], []), (107, I, J, mm_rf rv sp rr w nw))) rfl (fun h590 => ?_) (fun h590 => ?_)
    · rw [if_pos h590] at e
      refine mm_T.seg (f' := (22, [some (.ref 62), some (.int y1)], [(.ref 86)])) (h' := (107, I, J, mm_rf rv sp rr w nw)) 2 rfl ?_
      refine mm_T.seg (f' := (27, [some (.ref 62), some (.int y1)], [(.ref 86), (.int y1), (.ref 86)])) (h' := (107, I, J, mm_rf rv sp rr w nw)) 3 rfl ?_
      refine mm_T.seg (f' := (31, [some (.ref 62), some (.int y1)], [(.int (28 + y1)), (.ref 86), (.int y1), (.ref 86)])) (h' := (107, I, J, mm_rf rv sp rr w nw)) 3 rfl ?_
      by_cases h591 : (28 + y1) < 0 ∨ 1120 ≤ (28 + y1).toNatClampNeg
      · rw [if_pos h591] at e; cases e
      rw [if_neg h591] at e
      refine mm_T.guard (c := (28 + y1) < 0 ∨ 1120 ≤ (28 + y1).toNatClampNeg) (y := ((32, [some (.ref 62), some (.int y1)], [(.int (I 86 (28 + y1).toNatClampNeg)), (.int y1), (.ref 86)]), (107, I, J, mm_rf rv sp rr w nw))) (mm_gen (P := fun z => mm_stp none 267 (31, [some (.ref 62), some (.int y1)], [(.int z), (.ref 86), (.int y1), (.ref 86)]) (107, I, J, mm_rf rv sp rr w nw) = if z < 0 ∨ 1120 ≤ z.toNatClampNeg then none else some (.inl ((32, [some (.ref 62), some (.int y1)], [(.int (I 86 z.toNatClampNeg)), (.int y1), (.ref 86)]), (107, I, J, mm_rf rv sp rr w nw)))) (28 + y1) (fun z => rfl)) h591 ?_
      by_cases h592 : y1 < 0 ∨ 1120 ≤ y1.toNatClampNeg
      · rw [if_pos h592] at e; cases e
      rw [if_neg h592] at e
      refine mm_T.guard (y := ((33, [some (.ref 62), some (.int y1)], []), (107, (mm_up I 86 y1.toNatClampNeg (I 86 (28 + y1).toNatClampNeg)), J, mm_rf rv sp rr w nw))) rfl h592 ?_
      refine mm_T.seg (f' := (11, [some (.ref 62), some (.int (y1 + 1))], [])) (h' := (107, (mm_up I 86 y1.toNatClampNeg (I 86 (28 + y1).toNatClampNeg)), J, mm_rf rv sp rr w nw)) 2 rfl ?_
      refine mm_T.mask [true, true] ?_
      exact ih (y1 + 1) (mm_up I 86 y1.toNatClampNeg (I 86 (28 + y1).toNatClampNeg)) J rv sp rr w nw out e k
    · rw [if_neg h590] at e
      cases e
      refine mm_T.mask [true, false] ?_
      exact k
set_option maxRecDepth 100000 in
set_option maxHeartbeats 4000000 in
theorem tlX12_act_L51 (d : Nat) (Q : Option Value → mm_H → Prop) : ∀ (n : Nat) (y1 : Int32) (I : Nat → Nat → Int32) (J : Nat → Nat → Int64) (rv sp rr w nw : Nat), ∀ (out : (Nat → Nat → Int32)), fX12_act_L51 n y1 I = some out → mm_T none (d + 1) 267 (83, [some (.ref 62), none], []) (107, out, J, mm_rf rv sp rr w nw) Q → mm_T none (d + 1) 267 (51, [some (.ref 62), some (.int y1)], []) (107, I, J, mm_rf rv sp rr w nw) Q := by
  intro n
  induction n with
  | zero =>
    intro y1 I J rv sp rr w nw out e k
    rw [fX12_act_L51] at e; cases e
  | succ n ih =>
    intro y1 I J rv sp rr w nw out e k
    rw [fX12_act_L51] at e
    refine mm_T.seg (f' := (54, [some (.ref 62), some (.int y1)], [(.int 28), (.int y1)])) (h' := (107, I, J, mm_rf rv sp rr w nw)) 2 rfl ?_
    refine mm_T.br (c := y1 < 28) (a := ((57, [some (.ref 62), some (.int y1)], []), (107, I, J, mm_rf rv sp rr w nw))) (b := ((83, [some (.ref 62), some (.int y1)], []), (107, I, J, mm_rf rv sp rr w nw))) rfl (fun h594 => ?_) (fun h594 => ?_)
    · rw [if_pos h594] at e
      refine mm_T.seg (f' := (61, [some (.ref 62), some (.int y1)], [(.ref 86)])) (h' := (107, I, J, mm_rf rv sp rr w nw)) 2 rfl ?_
      refine mm_T.seg (f' := (74, [some (.ref 62), some (.int y1)], [(.ref 84), (.int ((28 * (I 62 57)) + y1)), (.ref 86)])) (h' := (107, I, J, mm_rf rv sp rr w nw)) 8 rfl ?_
      refine mm_T.seg (f' := (75, [some (.ref 62), some (.int y1)], [(.int y1), (.ref 84), (.int ((28 * (I 62 57)) + y1)), (.ref 86)])) (h' := (107, I, J, mm_rf rv sp rr w nw)) 1 rfl ?_
      by_cases h595 : y1 < 0 ∨ 28 ≤ y1.toNatClampNeg
      · rw [if_pos h595] at e; cases e
      rw [if_neg h595] at e
      refine mm_T.guard (y := ((76, [some (.ref 62), some (.int y1)], [(.int (I 84 y1.toNatClampNeg)), (.int ((28 * (I 62 57)) + y1)), (.ref 86)]), (107, I, J, mm_rf rv sp rr w nw))) rfl h595 ?_
      by_cases h596 : ((28 * (I 62 57)) + y1) < 0 ∨ 1120 ≤ ((28 * (I 62 57)) + y1).toNatClampNeg
      · rw [if_pos h596] at e; cases e
      rw [if_neg h596] at e
      refine mm_T.guard (c := ((28 * (I 62 57)) + y1) < 0 ∨ 1120 ≤ ((28 * (I 62 57)) + y1).toNatClampNeg) (y := ((77, [some (.ref 62), some (.int y1)], []), (107, (mm_up I 86 ((28 * (I 62 57)) + y1).toNatClampNeg (I 84 y1.toNatClampNeg)), J, mm_rf rv sp rr w nw))) (mm_gen (P := fun z => mm_stp none 267 (76, [some (.ref 62), some (.int y1)], [(.int (I 84 y1.toNatClampNeg)), (.int z), (.ref 86)]) (107, I, J, mm_rf rv sp rr w nw) = if z < 0 ∨ 1120 ≤ z.toNatClampNeg then none else some (.inl ((77, [some (.ref 62), some (.int y1)], []), (107, (mm_up I 86 z.toNatClampNeg (I 84 y1.toNatClampNeg)), J, mm_rf rv sp rr w nw)))) ((28 * (I 62 57)) + y1) (fun z => rfl)) h596 ?_
      refine mm_T.seg (f' := (51, [some (.ref 62), some (.int (y1 + 1))], [])) (h' := (107, (mm_up I 86 ((28 * (I 62 57)) + y1).toNatClampNeg (I 84 y1.toNatClampNeg)), J, mm_rf rv sp rr w nw)) 2 rfl ?_
      refine mm_T.mask [true, true] ?_
      exact ih (y1 + 1) (mm_up I 86 ((28 * (I 62 57)) + y1).toNatClampNeg (I 84 y1.toNatClampNeg)) J rv sp rr w nw out e k
    · rw [if_neg h594] at e
      cases e
      refine mm_T.mask [true, false] ?_
      exact k
set_option maxRecDepth 100000 in
set_option maxHeartbeats 4000000 in
theorem tX12_act (d n : Nat) (I : Nat → Nat → Int32) (J : Nat → Nat → Int64) (rv sp rr w nw : Nat) (out : (Nat → Nat → Int32)) (e : fX12_act n I = some out) : mm_T none (d + 1) 267 (mm_ent 267 [(.ref 62)]) (107, I, J, mm_rf rv sp rr w nw) (fun v h => v = none ∧ h = (107, out, J, mm_rf rv sp rr w nw)) := by
  unfold fX12_act at e
  refine mm_T.seg (f' := (6, [some (.ref 62), none], [(.int 40), (.int (I 62 57))])) (h' := (107, I, J, mm_rf rv sp rr w nw)) 3 rfl ?_
  refine mm_T.br (c := (I 62 57) = 40) (a := ((9, [some (.ref 62), none], []), (107, I, J, mm_rf rv sp rr w nw))) (b := ((49, [some (.ref 62), none], []), (107, I, J, mm_rf rv sp rr w nw))) rfl (fun h589 => ?_) (fun h589 => ?_)
  · rw [if_pos h589] at e
    refine mm_T.seg (f' := (11, [some (.ref 62), some (.int 0)], [])) (h' := (107, I, J, mm_rf rv sp rr w nw)) 2 rfl ?_
    refine mm_T.mask [true, true] ?_
    obtain ⟨o593, eo593, e⟩ := mm_bind e
    refine tlX12_act_L11 d _ n 0 I J rv sp rr w nw o593 eo593 ?_
    refine mm_T.seg (f' := (51, [some (.ref 62), some (.int 0)], [])) (h' := (107, (mm_up o593 62 57 ((o593 62 57) - 1)), J, mm_rf rv sp rr w nw)) 8 rfl ?_
    refine mm_T.mask [true, true] ?_
    obtain ⟨o597, eo597, e⟩ := mm_bind e
    refine tlX12_act_L51 d _ n 0 (mm_up o593 62 57 ((o593 62 57) - 1)) J rv sp rr w nw o597 eo597 ?_
    refine mm_T.seg (f' := (99, [some (.ref 62), none], [(.ref 62)])) (h' := (107, (mm_up (mm_up o597 62 57 ((o597 62 57) + 1)) 62 58 0), J, mm_rf rv sp rr w nw)) 10 rfl ?_
    obtain ⟨o598, eo598, e⟩ := mm_bind e
    refine mm_T.call (t := 256) (as := [(.ref 62)]) (f' := (102, [some (.ref 62), none], [])) rfl (tX12_fill (d + 0) n (mm_up (mm_up o597 62 57 ((o597 62 57) + 1)) 62 58 0) J rv sp rr w nw o598 eo598) (fun v h hq => ?_)
    obtain ⟨rfl, rfl⟩ := hq
    cases e
    exact mm_T.ret rfl ⟨rfl, rfl⟩
  · rw [if_neg h589] at e
    refine mm_T.seg (f' := (51, [some (.ref 62), some (.int 0)], [])) (h' := (107, I, J, mm_rf rv sp rr w nw)) 2 rfl ?_
    refine mm_T.mask [true, true] ?_
    obtain ⟨o599, eo599, e⟩ := mm_bind e
    refine tlX12_act_L51 d _ n 0 I J rv sp rr w nw o599 eo599 ?_
    refine mm_T.seg (f' := (99, [some (.ref 62), none], [(.ref 62)])) (h' := (107, (mm_up (mm_up o599 62 57 ((o599 62 57) + 1)) 62 58 0), J, mm_rf rv sp rr w nw)) 10 rfl ?_
    obtain ⟨o600, eo600, e⟩ := mm_bind e
    refine mm_T.call (t := 256) (as := [(.ref 62)]) (f' := (102, [some (.ref 62), none], [])) rfl (tX12_fill (d + 0) n (mm_up (mm_up o599 62 57 ((o599 62 57) + 1)) 62 58 0) J rv sp rr w nw o600 eo600) (fun v h hq => ?_)
    obtain ⟨rfl, rfl⟩ := hq
    cases e
    exact mm_T.ret rfl ⟨rfl, rfl⟩
set_option maxRecDepth 100000 in
set_option maxHeartbeats 4000000 in
theorem tlX12_exchange_L2 (d : Nat) (Q : Option Value → mm_H → Prop) : ∀ (n : Nat) (y1 : Int32) (y2 : Int32) (I : Nat → Nat → Int32) (J : Nat → Nat → Int64) (rv sp rr w nw : Nat), ∀ (out : (Nat → Nat → Int32)), fX12_exchange_L2 n y1 y2 I = some out → mm_T none (d + 0) 268 (44, [none, none, none, none], []) (107, out, J, mm_rf rv sp rr w nw) Q → mm_T none (d + 0) 268 (2, [some (.ref 62), some (.int y1), some (.int y2), none], []) (107, I, J, mm_rf rv sp rr w nw) Q := by
  intro n
  induction n with
  | zero =>
    intro y1 y2 I J rv sp rr w nw out e k
    rw [fX12_exchange_L2] at e; cases e
  | succ n ih =>
    intro y1 y2 I J rv sp rr w nw out e k
    rw [fX12_exchange_L2] at e
    refine mm_T.seg (f' := (5, [some (.ref 62), some (.int y1), some (.int y2), none], [(.int 28), (.int y2)])) (h' := (107, I, J, mm_rf rv sp rr w nw)) 2 rfl ?_
    refine mm_T.br (c := y2 < 28) (a := ((8, [some (.ref 62), some (.int y1), some (.int y2), none], []), (107, I, J, mm_rf rv sp rr w nw))) (b := ((44, [some (.ref 62), some (.int y1), some (.int y2), none], []), (107, I, J, mm_rf rv sp rr w nw))) rfl (fun h601 => ?_) (fun h601 => ?_)
    · rw [if_pos h601] at e
      refine mm_T.seg (f' := (12, [some (.ref 62), some (.int y1), some (.int y2), none], [(.ref 86)])) (h' := (107, I, J, mm_rf rv sp rr w nw)) 2 rfl ?_
      refine mm_T.seg (f' := (15, [some (.ref 62), some (.int y1), some (.int y2), none], [(.int (y1 + y2)), (.ref 86)])) (h' := (107, I, J, mm_rf rv sp rr w nw)) 3 rfl ?_
      by_cases h602 : (y1 + y2) < 0 ∨ 1120 ≤ (y1 + y2).toNatClampNeg
      · rw [if_pos h602] at e; cases e
      rw [if_neg h602] at e
      refine mm_T.guard (c := (y1 + y2) < 0 ∨ 1120 ≤ (y1 + y2).toNatClampNeg) (y := ((16, [some (.ref 62), some (.int y1), some (.int y2), none], [(.int (I 86 (y1 + y2).toNatClampNeg))]), (107, I, J, mm_rf rv sp rr w nw))) (mm_gen (P := fun z => mm_stp none 268 (15, [some (.ref 62), some (.int y1), some (.int y2), none], [(.int z), (.ref 86)]) (107, I, J, mm_rf rv sp rr w nw) = if z < 0 ∨ 1120 ≤ z.toNatClampNeg then none else some (.inl ((16, [some (.ref 62), some (.int y1), some (.int y2), none], [(.int (I 86 z.toNatClampNeg))]), (107, I, J, mm_rf rv sp rr w nw)))) (y1 + y2) (fun z => rfl)) h602 ?_
      refine mm_T.seg (f' := (21, [some (.ref 62), some (.int y1), some (.int y2), some (.int (I 86 (y1 + y2).toNatClampNeg))], [(.ref 86)])) (h' := (107, I, J, mm_rf rv sp rr w nw)) 3 rfl ?_
      refine mm_T.seg (f' := (28, [some (.ref 62), some (.int y1), some (.int y2), some (.int (I 86 (y1 + y2).toNatClampNeg))], [(.ref 84), (.int (y1 + y2)), (.ref 86)])) (h' := (107, I, J, mm_rf rv sp rr w nw)) 5 rfl ?_
      refine mm_T.seg (f' := (29, [some (.ref 62), some (.int y1), some (.int y2), some (.int (I 86 (y1 + y2).toNatClampNeg))], [(.int y2), (.ref 84), (.int (y1 + y2)), (.ref 86)])) (h' := (107, I, J, mm_rf rv sp rr w nw)) 1 rfl ?_
      by_cases h603 : y2 < 0 ∨ 28 ≤ y2.toNatClampNeg
      · rw [if_pos h603] at e; cases e
      rw [if_neg h603] at e
      refine mm_T.guard (y := ((30, [some (.ref 62), some (.int y1), some (.int y2), some (.int (I 86 (y1 + y2).toNatClampNeg))], [(.int (I 84 y2.toNatClampNeg)), (.int (y1 + y2)), (.ref 86)]), (107, I, J, mm_rf rv sp rr w nw))) rfl h603 ?_
      by_cases h604 : (y1 + y2) < 0 ∨ 1120 ≤ (y1 + y2).toNatClampNeg
      · rw [if_pos h604] at e; cases e
      rw [if_neg h604] at e
      refine mm_T.guard (c := (y1 + y2) < 0 ∨ 1120 ≤ (y1 + y2).toNatClampNeg) (y := ((31, [some (.ref 62), some (.int y1), some (.int y2), some (.int (I 86 (y1 + y2).toNatClampNeg))], []), (107, (mm_up I 86 (y1 + y2).toNatClampNeg (I 84 y2.toNatClampNeg)), J, mm_rf rv sp rr w nw))) (mm_gen (P := fun z => mm_stp none 268 (30, [some (.ref 62), some (.int y1), some (.int y2), some (.int (I 86 z.toNatClampNeg))], [(.int (I 84 y2.toNatClampNeg)), (.int z), (.ref 86)]) (107, I, J, mm_rf rv sp rr w nw) = if z < 0 ∨ 1120 ≤ z.toNatClampNeg then none else some (.inl ((31, [some (.ref 62), some (.int y1), some (.int y2), some (.int (I 86 z.toNatClampNeg))], []), (107, (mm_up I 86 z.toNatClampNeg (I 84 y2.toNatClampNeg)), J, mm_rf rv sp rr w nw)))) (y1 + y2) (fun z => rfl)) h604 ?_
      refine mm_T.seg (f' := (35, [some (.ref 62), some (.int y1), some (.int y2), some (.int (I 86 (y1 + y2).toNatClampNeg))], [(.ref 84)])) (h' := (107, (mm_up I 86 (y1 + y2).toNatClampNeg (I 84 y2.toNatClampNeg)), J, mm_rf rv sp rr w nw)) 2 rfl ?_
      refine mm_T.seg (f' := (37, [some (.ref 62), some (.int y1), some (.int y2), some (.int (I 86 (y1 + y2).toNatClampNeg))], [(.int (I 86 (y1 + y2).toNatClampNeg)), (.int y2), (.ref 84)])) (h' := (107, (mm_up I 86 (y1 + y2).toNatClampNeg (I 84 y2.toNatClampNeg)), J, mm_rf rv sp rr w nw)) 2 rfl ?_
      by_cases h605 : y2 < 0 ∨ 28 ≤ y2.toNatClampNeg
      · rw [if_pos h605] at e; cases e
      rw [if_neg h605] at e
      refine mm_T.guard (y := ((38, [some (.ref 62), some (.int y1), some (.int y2), some (.int (I 86 (y1 + y2).toNatClampNeg))], []), (107, (mm_up (mm_up I 86 (y1 + y2).toNatClampNeg (I 84 y2.toNatClampNeg)) 84 y2.toNatClampNeg (I 86 (y1 + y2).toNatClampNeg)), J, mm_rf rv sp rr w nw))) rfl h605 ?_
      refine mm_T.seg (f' := (2, [some (.ref 62), some (.int y1), some (.int (y2 + 1)), some (.int (I 86 (y1 + y2).toNatClampNeg))], [])) (h' := (107, (mm_up (mm_up I 86 (y1 + y2).toNatClampNeg (I 84 y2.toNatClampNeg)) 84 y2.toNatClampNeg (I 86 (y1 + y2).toNatClampNeg)), J, mm_rf rv sp rr w nw)) 2 rfl ?_
      refine mm_T.mask [true, true, true, false] ?_
      exact ih y1 (y2 + 1) (mm_up (mm_up I 86 (y1 + y2).toNatClampNeg (I 84 y2.toNatClampNeg)) 84 y2.toNatClampNeg (I 86 (y1 + y2).toNatClampNeg)) J rv sp rr w nw out e k
    · rw [if_neg h601] at e
      cases e
      refine mm_T.mask [false, false, false, false] ?_
      exact k
set_option maxRecDepth 100000 in
set_option maxHeartbeats 4000000 in
theorem tX12_exchange (d n : Nat) (x1 : Int32) (I : Nat → Nat → Int32) (J : Nat → Nat → Int64) (rv sp rr w nw : Nat) (out : (Nat → Nat → Int32)) (e : fX12_exchange n x1 I = some out) : mm_T none (d + 0) 268 (mm_ent 268 [(.ref 62), (.int x1)]) (107, I, J, mm_rf rv sp rr w nw) (fun v h => v = none ∧ h = (107, out, J, mm_rf rv sp rr w nw)) := by
  unfold fX12_exchange at e
  refine mm_T.seg (f' := (2, [some (.ref 62), some (.int x1), some (.int 0), none], [])) (h' := (107, I, J, mm_rf rv sp rr w nw)) 2 rfl ?_
  refine mm_T.mask [true, true, true, false] ?_
  obtain ⟨o606, eo606, e⟩ := mm_bind e
  refine tlX12_exchange_L2 d _ n x1 0 I J rv sp rr w nw o606 eo606 ?_
  cases e
  exact mm_T.ret rfl ⟨rfl, rfl⟩
set_option maxRecDepth 100000 in
set_option maxHeartbeats 4000000 in
theorem tbX12_stroke_J40 (d : Nat) (I : Nat → Nat → Int32) (J : Nat → Nat → Int64) (rv sp rr w nw : Nat) (out : Int32 × (Nat → Nat → Int32)) (e : fX12_stroke_J40 I = some out) : mm_T none (d + 4) 269 (40, [none, none, none, none, none], []) (107, I, J, mm_rf rv sp rr w nw) (fun v h => v = some (.int out.1) ∧ h = (107, out.2, J, mm_rf rv sp rr w nw)) := by
  unfold fX12_stroke_J40 at e
  refine mm_T.seg (f' := (41, [none, none, none, none, none], [(.int (-1))])) (h' := (107, I, J, mm_rf rv sp rr w nw)) 1 rfl ?_
  cases e
  exact mm_T.ret rfl ⟨rfl, rfl⟩
set_option maxRecDepth 100000 in
set_option maxHeartbeats 4000000 in
theorem tbX12_stroke_J83 (d n : Nat) (u0 : Int32) (u1 : Int32) (u2 : Int32) (I : Nat → Nat → Int32) (J : Nat → Nat → Int64) (rv sp rr w nw : Nat) (out : Int32 × (Nat → Nat → Int32)) (e : fX12_stroke_J83 n u0 u1 u2 I = some out) : mm_T none (d + 4) 269 (83, [some (.ref 62), none, none, none, none], [(.int u0), (.int u1), (.int u2), (.ref 62)]) (107, I, J, mm_rf rv sp rr w nw) (fun v h => v = some (.int out.1) ∧ h = (107, out.2, J, mm_rf rv sp rr w nw)) := by
  unfold fX12_stroke_J83 at e
  refine mm_T.seg (f' := (87, [some (.ref 62), none, none, none, none], [(.ref 85), (.int u0), (.int u1), (.int u2), (.ref 62)])) (h' := (107, I, J, mm_rf rv sp rr w nw)) 2 rfl ?_
  refine mm_T.seg (f' := (97, [some (.ref 62), none, none, none, none], [(.int (I 62 50)), (.int ((I 85 27) - (I 85 27) / 100 * 100)), (.int u0), (.int u1), (.int u2), (.ref 62)])) (h' := (107, I, J, mm_rf rv sp rr w nw)) 6 rfl ?_
  refine mm_T.br (c := ((I 85 27) - (I 85 27) / 100 * 100) < (I 62 50)) (a := ((100, [some (.ref 62), none, none, none, none], [(.int u0), (.int u1), (.int u2), (.ref 62)]), (107, I, J, mm_rf rv sp rr w nw))) (b := ((104, [some (.ref 62), none, none, none, none], [(.int u0), (.int u1), (.int u2), (.ref 62)]), (107, I, J, mm_rf rv sp rr w nw))) rfl (fun h615 => ?_) (fun h615 => ?_)
  · rw [if_pos h615] at e
    refine mm_T.seg (f' := (105, [some (.ref 62), none, none, none, none], [(.int 2), (.int u0), (.int u1), (.int u2), (.ref 62)])) (h' := (107, I, J, mm_rf rv sp rr w nw)) 2 rfl ?_
    obtain ⟨o616, eo616, e⟩ := mm_bind e
    refine mm_T.call (t := 261) (as := [(.ref 62), (.int u2), (.int u1), (.int u0), (.int 2)]) (f' := (108, [some (.ref 62), none, none, none, none], [])) rfl (tX12_goStroke (d + 0) n u2 u1 u0 2 I J rv sp rr w nw o616 eo616) (fun v h hq => ?_)
    obtain ⟨rfl, rfl⟩ := hq
    refine mm_T.seg (f' := (111, [some (.ref 62), none, none, none, some (.int o616.1)], [(.ref 62)])) (h' := (107, o616.2, J, mm_rf rv sp rr w nw)) 2 rfl ?_
    obtain ⟨o617, eo617, e⟩ := mm_bind e
    refine mm_T.call (t := 257) (as := [(.ref 62)]) (f' := (114, [some (.ref 62), none, none, none, some (.int o616.1)], [])) rfl (tX12_keepAir (d + 3) n o616.2 J rv sp rr w nw o617 eo617) (fun v h hq => ?_)
    obtain ⟨rfl, rfl⟩ := hq
    refine mm_T.seg (f' := (116, [some (.ref 62), none, none, none, some (.int o616.1)], [(.int o616.1)])) (h' := (107, o617, J, mm_rf rv sp rr w nw)) 1 rfl ?_
    cases e
    exact mm_T.ret rfl ⟨rfl, rfl⟩
  · rw [if_neg h615] at e
    refine mm_T.seg (f' := (105, [some (.ref 62), none, none, none, none], [(.int 1), (.int u0), (.int u1), (.int u2), (.ref 62)])) (h' := (107, I, J, mm_rf rv sp rr w nw)) 1 rfl ?_
    obtain ⟨o618, eo618, e⟩ := mm_bind e
    refine mm_T.call (t := 261) (as := [(.ref 62), (.int u2), (.int u1), (.int u0), (.int 1)]) (f' := (108, [some (.ref 62), none, none, none, none], [])) rfl (tX12_goStroke (d + 0) n u2 u1 u0 1 I J rv sp rr w nw o618 eo618) (fun v h hq => ?_)
    obtain ⟨rfl, rfl⟩ := hq
    refine mm_T.seg (f' := (111, [some (.ref 62), none, none, none, some (.int o618.1)], [(.ref 62)])) (h' := (107, o618.2, J, mm_rf rv sp rr w nw)) 2 rfl ?_
    obtain ⟨o619, eo619, e⟩ := mm_bind e
    refine mm_T.call (t := 257) (as := [(.ref 62)]) (f' := (114, [some (.ref 62), none, none, none, some (.int o618.1)], [])) rfl (tX12_keepAir (d + 3) n o618.2 J rv sp rr w nw o619 eo619) (fun v h hq => ?_)
    obtain ⟨rfl, rfl⟩ := hq
    refine mm_T.seg (f' := (116, [some (.ref 62), none, none, none, some (.int o618.1)], [(.int o618.1)])) (h' := (107, o619, J, mm_rf rv sp rr w nw)) 1 rfl ?_
    cases e
    exact mm_T.ret rfl ⟨rfl, rfl⟩
set_option maxRecDepth 100000 in
set_option maxHeartbeats 4000000 in
theorem tbX12_stroke_J37 (d n : Nat) (y1 : Int32) (y2 : Int32) (y3 : Int32) (u0 : Int32) (u1 : Int32) (I : Nat → Nat → Int32) (J : Nat → Nat → Int64) (rv sp rr w nw : Nat) (out : Int32 × (Nat → Nat → Int32)) (e : fX12_stroke_J37 n y1 y2 y3 u0 u1 I = some out) : mm_T none (d + 4) 269 (37, [some (.ref 62), some (.int y1), some (.int y2), some (.int y3), none], [(.int u0), (.int u1)]) (107, I, J, mm_rf rv sp rr w nw) (fun v h => v = some (.int out.1) ∧ h = (107, out.2, J, mm_rf rv sp rr w nw)) := by
  unfold fX12_stroke_J37 at e
  refine mm_T.br (c := u1 = u0) (a := ((40, [some (.ref 62), some (.int y1), some (.int y2), some (.int y3), none], []), (107, I, J, mm_rf rv sp rr w nw))) (b := ((42, [some (.ref 62), some (.int y1), some (.int y2), some (.int y3), none], []), (107, I, J, mm_rf rv sp rr w nw))) rfl (fun h612 => ?_) (fun h612 => ?_)
  · rw [if_pos h612] at e
    refine mm_T.mask [false, false, false, false, false] ?_
    exact tbX12_stroke_J40 d I J rv sp rr w nw out e
  · rw [if_neg h612] at e
    refine mm_T.seg (f' := (43, [some (.ref 62), some (.int y1), some (.int y2), some (.int y3), none], [(.ref 62)])) (h' := (107, I, J, mm_rf rv sp rr w nw)) 1 rfl ?_
    obtain ⟨o613, eo613, e⟩ := mm_bind e
    refine mm_T.call (t := 267) (as := [(.ref 62)]) (f' := (46, [some (.ref 62), some (.int y1), some (.int y2), some (.int y3), none], [])) rfl (tX12_act (d + 2) n I J rv sp rr w nw o613 eo613) (fun v h hq => ?_)
    obtain ⟨rfl, rfl⟩ := hq
    refine mm_T.seg (f' := (50, [some (.ref 62), some (.int y1), some (.int y2), some (.int y3), none], [(.ref 85)])) (h' := (107, o613, J, mm_rf rv sp rr w nw)) 2 rfl ?_
    refine mm_T.seg (f' := (56, [some (.ref 62), some (.int y1), some (.int y2), some (.int y3), none], [(.ref 85), (.int 27), (.ref 85)])) (h' := (107, o613, J, mm_rf rv sp rr w nw)) 3 rfl ?_
    refine mm_T.seg (f' := (75, [some (.ref 62), some (.int y1), some (.int y2), some (.int y3), none], [(.int y3), (.int y2), (.int y1), (.ref 62)])) (h' := (107, (mm_up o613 85 27 ((((o613 85 27) * 137) + 71) - (((o613 85 27) * 137) + 71) / 1000 * 1000)), J, mm_rf rv sp rr w nw)) 13 rfl ?_
    refine mm_T.br (c := y3 = 0) (a := ((82, [some (.ref 62), some (.int y1), some (.int y2), some (.int y3), none], [(.int y2), (.int y1), (.ref 62)]), (107, (mm_up o613 85 27 ((((o613 85 27) * 137) + 71) - (((o613 85 27) * 137) + 71) / 1000 * 1000)), J, mm_rf rv sp rr w nw))) (b := ((78, [some (.ref 62), some (.int y1), some (.int y2), some (.int y3), none], [(.int y2), (.int y1), (.ref 62)]), (107, (mm_up o613 85 27 ((((o613 85 27) * 137) + 71) - (((o613 85 27) * 137) + 71) / 1000 * 1000)), J, mm_rf rv sp rr w nw))) rfl (fun h614 => ?_) (fun h614 => ?_)
    · rw [if_pos h614] at e
      refine mm_T.seg (f' := (83, [some (.ref 62), some (.int y1), some (.int y2), some (.int y3), none], [(.int (-1)), (.int y2), (.int y1), (.ref 62)])) (h' := (107, (mm_up o613 85 27 ((((o613 85 27) * 137) + 71) - (((o613 85 27) * 137) + 71) / 1000 * 1000)), J, mm_rf rv sp rr w nw)) 1 rfl ?_
      refine mm_T.mask [true, false, false, false, false] ?_
      exact tbX12_stroke_J83 d n (-1) y2 y1 (mm_up o613 85 27 ((((o613 85 27) * 137) + 71) - (((o613 85 27) * 137) + 71) / 1000 * 1000)) J rv sp rr w nw out e
    · rw [if_neg h614] at e
      refine mm_T.seg (f' := (83, [some (.ref 62), some (.int y1), some (.int y2), some (.int y3), none], [(.int 1), (.int y2), (.int y1), (.ref 62)])) (h' := (107, (mm_up o613 85 27 ((((o613 85 27) * 137) + 71) - (((o613 85 27) * 137) + 71) / 1000 * 1000)), J, mm_rf rv sp rr w nw)) 2 rfl ?_
      refine mm_T.mask [true, false, false, false, false] ?_
      exact tbX12_stroke_J83 d n 1 y2 y1 (mm_up o613 85 27 ((((o613 85 27) * 137) + 71) - (((o613 85 27) * 137) + 71) / 1000 * 1000)) J rv sp rr w nw out e
set_option maxRecDepth 100000 in
set_option maxHeartbeats 4000000 in
theorem tX12_stroke (d n : Nat) (x1 : Int32) (x2 : Int32) (x3 : Int32) (I : Nat → Nat → Int32) (J : Nat → Nat → Int64) (rv sp rr w nw : Nat) (out : Int32 × (Nat → Nat → Int32)) (e : fX12_stroke n x1 x2 x3 I = some out) : mm_T none (d + 4) 269 (mm_ent 269 [(.ref 62), (.int x1), (.int x2), (.int x3)]) (107, I, J, mm_rf rv sp rr w nw) (fun v h => v = some (.int out.1) ∧ h = (107, out.2, J, mm_rf rv sp rr w nw)) := by
  unfold fX12_stroke at e
  refine mm_T.seg (f' := (2, [some (.ref 62), some (.int x1), some (.int x2), some (.int x3), none], [(.int x1), (.ref 62)])) (h' := (107, I, J, mm_rf rv sp rr w nw)) 2 rfl ?_
  obtain ⟨o607, eo607, e⟩ := mm_bind e
  refine mm_T.call (t := 253) (as := [(.ref 62), (.int x1)]) (f' := (5, [some (.ref 62), some (.int x1), some (.int x2), some (.int x3), none], [])) rfl (tX12_isBoard (d + 2) x1 I J rv sp rr w nw o607 eo607) (fun v h hq => ?_)
  obtain ⟨rfl, rfl⟩ := hq
  refine mm_T.br (c := o607 = 0) (a := ((40, [some (.ref 62), some (.int x1), some (.int x2), some (.int x3), none], []), (107, I, J, mm_rf rv sp rr w nw))) (b := ((8, [some (.ref 62), some (.int x1), some (.int x2), some (.int x3), none], []), (107, I, J, mm_rf rv sp rr w nw))) rfl (fun h608 => ?_) (fun h608 => ?_)
  · rw [if_pos h608] at e
    refine mm_T.mask [false, false, false, false, false] ?_
    exact tbX12_stroke_J40 d I J rv sp rr w nw out e
  · rw [if_neg h608] at e
    refine mm_T.seg (f' := (11, [some (.ref 62), some (.int x1), some (.int x2), some (.int x3), none], [(.int 1), (.int (-1)), (.int x2)])) (h' := (107, I, J, mm_rf rv sp rr w nw)) 3 rfl ?_
    obtain ⟨g135, hg135⟩ : ∃ z, fX12_isIn x2 (-1) 1 = z := ⟨_, rfl⟩
    try rw [hg135] at e
    refine mm_T.call (t := 252) (as := [(.int x2), (.int (-1)), (.int 1)]) (f' := (14, [some (.ref 62), some (.int x1), some (.int x2), some (.int x3), none], [])) rfl (tX12_isIn (d + 3) x2 (-1) 1 I J rv sp rr w nw g135 hg135) (fun v h hq => ?_)
    obtain ⟨rfl, rfl⟩ := hq
    refine mm_T.br (c := g135 = 0) (a := ((40, [some (.ref 62), some (.int x1), some (.int x2), some (.int x3), none], []), (107, I, J, mm_rf rv sp rr w nw))) (b := ((17, [some (.ref 62), some (.int x1), some (.int x2), some (.int x3), none], []), (107, I, J, mm_rf rv sp rr w nw))) rfl (fun h609 => ?_) (fun h609 => ?_)
    · rw [if_pos h609] at e
      refine mm_T.mask [false, false, false, false, false] ?_
      exact tbX12_stroke_J40 d I J rv sp rr w nw out e
    · rw [if_neg h609] at e
      refine mm_T.seg (f' := (21, [some (.ref 62), some (.int x1), some (.int x2), some (.int x3), none], [(.ref 84)])) (h' := (107, I, J, mm_rf rv sp rr w nw)) 2 rfl ?_
      refine mm_T.seg (f' := (24, [some (.ref 62), some (.int x1), some (.int x2), some (.int x3), none], [(.int (4 + x1)), (.ref 84)])) (h' := (107, I, J, mm_rf rv sp rr w nw)) 3 rfl ?_
      by_cases h610 : (4 + x1) < 0 ∨ 28 ≤ (4 + x1).toNatClampNeg
      · rw [if_pos h610] at e; cases e
      rw [if_neg h610] at e
      refine mm_T.guard (c := (4 + x1) < 0 ∨ 28 ≤ (4 + x1).toNatClampNeg) (y := ((25, [some (.ref 62), some (.int x1), some (.int x2), some (.int x3), none], [(.int (I 84 (4 + x1).toNatClampNeg))]), (107, I, J, mm_rf rv sp rr w nw))) (mm_gen (P := fun z => mm_stp none 269 (24, [some (.ref 62), some (.int x1), some (.int x2), some (.int x3), none], [(.int z), (.ref 84)]) (107, I, J, mm_rf rv sp rr w nw) = if z < 0 ∨ 28 ≤ z.toNatClampNeg then none else some (.inl ((25, [some (.ref 62), some (.int x1), some (.int x2), some (.int x3), none], [(.int (I 84 z.toNatClampNeg))]), (107, I, J, mm_rf rv sp rr w nw)))) (4 + x1) (fun z => rfl)) h610 ?_
      refine mm_T.seg (f' := (26, [some (.ref 62), some (.int x1), some (.int x2), some (.int x3), none], [(.int x3), (.int (I 84 (4 + x1).toNatClampNeg))])) (h' := (107, I, J, mm_rf rv sp rr w nw)) 1 rfl ?_
      refine mm_T.br (c := x3 = 0) (a := ((36, [some (.ref 62), some (.int x1), some (.int x2), some (.int x3), none], [(.int (I 84 (4 + x1).toNatClampNeg))]), (107, I, J, mm_rf rv sp rr w nw))) (b := ((29, [some (.ref 62), some (.int x1), some (.int x2), some (.int x3), none], [(.int (I 84 (4 + x1).toNatClampNeg))]), (107, I, J, mm_rf rv sp rr w nw))) rfl (fun h611 => ?_) (fun h611 => ?_)
      · rw [if_pos h611] at e
        refine mm_T.seg (f' := (37, [some (.ref 62), some (.int x1), some (.int x2), some (.int x3), none], [(.int 0), (.int (I 84 (4 + x1).toNatClampNeg))])) (h' := (107, I, J, mm_rf rv sp rr w nw)) 1 rfl ?_
        refine mm_T.mask [true, true, true, true, false] ?_
        exact tbX12_stroke_J37 d n x1 x2 x3 0 (I 84 (4 + x1).toNatClampNeg) I J rv sp rr w nw out e
      · rw [if_neg h611] at e
        refine mm_T.seg (f' := (37, [some (.ref 62), some (.int x1), some (.int x2), some (.int x3), none], [(.int (I 62 47)), (.int (I 84 (4 + x1).toNatClampNeg))])) (h' := (107, I, J, mm_rf rv sp rr w nw)) 3 rfl ?_
        refine mm_T.mask [true, true, true, true, false] ?_
        exact tbX12_stroke_J37 d n x1 x2 x3 (I 62 47) (I 84 (4 + x1).toNatClampNeg) I J rv sp rr w nw out e
set_option maxRecDepth 100000 in
set_option maxHeartbeats 4000000 in
theorem tX12_isAtBank (d : Nat) (x1 : Int32) (I : Nat → Nat → Int32) (J : Nat → Nat → Int64) (rv sp rr w nw : Nat) (out : Int32) (e : fX12_isAtBank x1 I = some out) : mm_T none (d + 0) 270 (mm_ent 270 [(.ref 62), (.int x1)]) (107, I, J, mm_rf rv sp rr w nw) (fun v h => v = some (.int out) ∧ h = (107, I, J, mm_rf rv sp rr w nw)) := by
  unfold fX12_isAtBank at e
  refine mm_T.seg (f' := (4, [some (.ref 62), some (.int x1)], [(.ref 84)])) (h' := (107, I, J, mm_rf rv sp rr w nw)) 2 rfl ?_
  refine mm_T.seg (f' := (7, [some (.ref 62), some (.int x1)], [(.int (4 + x1)), (.ref 84)])) (h' := (107, I, J, mm_rf rv sp rr w nw)) 3 rfl ?_
  by_cases h620 : (4 + x1) < 0 ∨ 28 ≤ (4 + x1).toNatClampNeg
  · rw [if_pos h620] at e; cases e
  rw [if_neg h620] at e
  refine mm_T.guard (c := (4 + x1) < 0 ∨ 28 ≤ (4 + x1).toNatClampNeg) (y := ((8, [some (.ref 62), some (.int x1)], [(.int (I 84 (4 + x1).toNatClampNeg))]), (107, I, J, mm_rf rv sp rr w nw))) (mm_gen (P := fun z => mm_stp none 270 (7, [some (.ref 62), some (.int x1)], [(.int z), (.ref 84)]) (107, I, J, mm_rf rv sp rr w nw) = if z < 0 ∨ 28 ≤ z.toNatClampNeg then none else some (.inl ((8, [some (.ref 62), some (.int x1)], [(.int (I 84 z.toNatClampNeg))]), (107, I, J, mm_rf rv sp rr w nw)))) (4 + x1) (fun z => rfl)) h620 ?_
  refine mm_T.br (c := (I 84 (4 + x1).toNatClampNeg) = 0) (a := ((26, [some (.ref 62), some (.int x1)], []), (107, I, J, mm_rf rv sp rr w nw))) (b := ((11, [some (.ref 62), some (.int x1)], []), (107, I, J, mm_rf rv sp rr w nw))) rfl (fun h621 => ?_) (fun h621 => ?_)
  · rw [if_pos h621] at e
    refine mm_T.seg (f' := (31, [some (.ref 62), some (.int x1)], [(.int 1)])) (h' := (107, I, J, mm_rf rv sp rr w nw)) 2 rfl ?_
    cases e
    exact mm_T.ret rfl ⟨rfl, rfl⟩
  · rw [if_neg h621] at e
    refine mm_T.seg (f' := (15, [some (.ref 62), some (.int x1)], [(.ref 84)])) (h' := (107, I, J, mm_rf rv sp rr w nw)) 2 rfl ?_
    refine mm_T.seg (f' := (18, [some (.ref 62), some (.int x1)], [(.int (4 + x1)), (.ref 84)])) (h' := (107, I, J, mm_rf rv sp rr w nw)) 3 rfl ?_
    by_cases h622 : (4 + x1) < 0 ∨ 28 ≤ (4 + x1).toNatClampNeg
    · rw [if_pos h622] at e; cases e
    rw [if_neg h622] at e
    refine mm_T.guard (c := (4 + x1) < 0 ∨ 28 ≤ (4 + x1).toNatClampNeg) (y := ((19, [some (.ref 62), some (.int x1)], [(.int (I 84 (4 + x1).toNatClampNeg))]), (107, I, J, mm_rf rv sp rr w nw))) (mm_gen (P := fun z => mm_stp none 270 (18, [some (.ref 62), some (.int x1)], [(.int z), (.ref 84)]) (107, I, J, mm_rf rv sp rr w nw) = if z < 0 ∨ 28 ≤ z.toNatClampNeg then none else some (.inl ((19, [some (.ref 62), some (.int x1)], [(.int (I 84 z.toNatClampNeg))]), (107, I, J, mm_rf rv sp rr w nw)))) (4 + x1) (fun z => rfl)) h622 ?_
    refine mm_T.seg (f' := (23, [some (.ref 62), some (.int x1)], [(.int (I 62 47)), (.int (I 84 (4 + x1).toNatClampNeg))])) (h' := (107, I, J, mm_rf rv sp rr w nw)) 2 rfl ?_
    refine mm_T.br (c := (I 84 (4 + x1).toNatClampNeg) = (I 62 47)) (a := ((26, [some (.ref 62), some (.int x1)], []), (107, I, J, mm_rf rv sp rr w nw))) (b := ((30, [some (.ref 62), some (.int x1)], []), (107, I, J, mm_rf rv sp rr w nw))) rfl (fun h623 => ?_) (fun h623 => ?_)
    · rw [if_pos h623] at e
      refine mm_T.seg (f' := (31, [some (.ref 62), some (.int x1)], [(.int 1)])) (h' := (107, I, J, mm_rf rv sp rr w nw)) 2 rfl ?_
      cases e
      exact mm_T.ret rfl ⟨rfl, rfl⟩
    · rw [if_neg h623] at e
      refine mm_T.seg (f' := (31, [some (.ref 62), some (.int x1)], [(.int 0)])) (h' := (107, I, J, mm_rf rv sp rr w nw)) 1 rfl ?_
      cases e
      exact mm_T.ret rfl ⟨rfl, rfl⟩
set_option maxRecDepth 100000 in
set_option maxHeartbeats 4000000 in
theorem tX12_bankOf (d : Nat) (x1 : Int32) (I : Nat → Nat → Int32) (J : Nat → Nat → Int64) (rv sp rr w nw : Nat) (out : Int32) (e : fX12_bankOf x1 = out) : mm_T none (d + 0) 271 (mm_ent 271 [(.ref 62), (.int x1)]) (107, I, J, mm_rf rv sp rr w nw) (fun v h => v = some (.int out) ∧ h = (107, I, J, mm_rf rv sp rr w nw)) := by
  unfold fX12_bankOf at e
  refine mm_T.seg (f' := (1, [some (.ref 62), some (.int x1)], [(.int x1)])) (h' := (107, I, J, mm_rf rv sp rr w nw)) 1 rfl ?_
  refine mm_T.br (c := x1 = 0) (a := ((4, [some (.ref 62), some (.int x1)], []), (107, I, J, mm_rf rv sp rr w nw))) (b := ((8, [some (.ref 62), some (.int x1)], []), (107, I, J, mm_rf rv sp rr w nw))) rfl (fun h624 => ?_) (fun h624 => ?_)
  · rw [if_pos h624] at e
    refine mm_T.seg (f' := (10, [some (.ref 62), some (.int x1)], [(.int (-1))])) (h' := (107, I, J, mm_rf rv sp rr w nw)) 2 rfl ?_
    cases e
    exact mm_T.ret rfl ⟨rfl, rfl⟩
  · rw [if_neg h624] at e
    refine mm_T.seg (f' := (10, [some (.ref 62), some (.int x1)], [(.int (-2))])) (h' := (107, I, J, mm_rf rv sp rr w nw)) 1 rfl ?_
    cases e
    exact mm_T.ret rfl ⟨rfl, rfl⟩
set_option maxRecDepth 100000 in
set_option maxHeartbeats 4000000 in
theorem tX12_stow (d n : Nat) (x1 : Int32) (x2 : Int32) (I : Nat → Nat → Int32) (J : Nat → Nat → Int64) (rv sp rr w nw : Nat) (out : Int32 × (Nat → Nat → Int32)) (e : fX12_stow n x1 x2 I = some out) : mm_T none (d + 2) 272 (mm_ent 272 [(.ref 62), (.int x1), (.int x2)]) (107, I, J, mm_rf rv sp rr w nw) (fun v h => v = some (.int out.1) ∧ h = (107, out.2, J, mm_rf rv sp rr w nw)) := by
  unfold fX12_stow at e
  refine mm_T.seg (f' := (1, [some (.ref 62), some (.int x1), some (.int x2)], [(.ref 62)])) (h' := (107, I, J, mm_rf rv sp rr w nw)) 1 rfl ?_
  obtain ⟨o625, eo625, e⟩ := mm_bind e
  refine mm_T.call (t := 256) (as := [(.ref 62)]) (f' := (4, [some (.ref 62), some (.int x1), some (.int x2)], [])) rfl (tX12_fill (d + 1) n I J rv sp rr w nw o625 eo625) (fun v h hq => ?_)
  obtain ⟨rfl, rfl⟩ := hq
  refine mm_T.seg (f' := (6, [some (.ref 62), some (.int x1), some (.int x2)], [(.int x1), (.ref 62)])) (h' := (107, o625, J, mm_rf rv sp rr w nw)) 2 rfl ?_
  obtain ⟨o626, eo626, e⟩ := mm_bind e
  refine mm_T.call (t := 254) (as := [(.ref 62), (.int x1)]) (f' := (9, [some (.ref 62), some (.int x1), some (.int x2)], [])) rfl (tX12_isLoad (d + 0) x1 o625 J rv sp rr w nw o626 eo626) (fun v h hq => ?_)
  obtain ⟨rfl, rfl⟩ := hq
  refine mm_T.br (c := o626 = 0) (a := ((73, [some (.ref 62), some (.int x1), some (.int x2)], []), (107, o625, J, mm_rf rv sp rr w nw))) (b := ((12, [some (.ref 62), some (.int x1), some (.int x2)], []), (107, o625, J, mm_rf rv sp rr w nw))) rfl (fun h627 => ?_) (fun h627 => ?_)
  · rw [if_pos h627] at e
    refine mm_T.seg (f' := (74, [some (.ref 62), some (.int x1), some (.int x2)], [(.int (-1))])) (h' := (107, o625, J, mm_rf rv sp rr w nw)) 1 rfl ?_
    cases e
    exact mm_T.ret rfl ⟨rfl, rfl⟩
  · rw [if_neg h627] at e
    refine mm_T.seg (f' := (14, [some (.ref 62), some (.int x1), some (.int x2)], [(.int x2), (.ref 62)])) (h' := (107, o625, J, mm_rf rv sp rr w nw)) 2 rfl ?_
    obtain ⟨o628, eo628, e⟩ := mm_bind e
    refine mm_T.call (t := 253) (as := [(.ref 62), (.int x2)]) (f' := (17, [some (.ref 62), some (.int x1), some (.int x2)], [])) rfl (tX12_isBoard (d + 0) x2 o625 J rv sp rr w nw o628 eo628) (fun v h hq => ?_)
    obtain ⟨rfl, rfl⟩ := hq
    refine mm_T.br (c := o628 = 0) (a := ((73, [some (.ref 62), some (.int x1), some (.int x2)], []), (107, o625, J, mm_rf rv sp rr w nw))) (b := ((20, [some (.ref 62), some (.int x1), some (.int x2)], []), (107, o625, J, mm_rf rv sp rr w nw))) rfl (fun h629 => ?_) (fun h629 => ?_)
    · rw [if_pos h629] at e
      refine mm_T.seg (f' := (74, [some (.ref 62), some (.int x1), some (.int x2)], [(.int (-1))])) (h' := (107, o625, J, mm_rf rv sp rr w nw)) 1 rfl ?_
      cases e
      exact mm_T.ret rfl ⟨rfl, rfl⟩
    · rw [if_neg h629] at e
      refine mm_T.seg (f' := (22, [some (.ref 62), some (.int x1), some (.int x2)], [(.int x2), (.ref 62)])) (h' := (107, o625, J, mm_rf rv sp rr w nw)) 2 rfl ?_
      obtain ⟨o630, eo630, e⟩ := mm_bind e
      refine mm_T.call (t := 270) (as := [(.ref 62), (.int x2)]) (f' := (25, [some (.ref 62), some (.int x1), some (.int x2)], [])) rfl (tX12_isAtBank (d + 1) x2 o625 J rv sp rr w nw o630 eo630) (fun v h hq => ?_)
      obtain ⟨rfl, rfl⟩ := hq
      refine mm_T.br (c := o630 = 0) (a := ((73, [some (.ref 62), some (.int x1), some (.int x2)], []), (107, o625, J, mm_rf rv sp rr w nw))) (b := ((28, [some (.ref 62), some (.int x1), some (.int x2)], []), (107, o625, J, mm_rf rv sp rr w nw))) rfl (fun h631 => ?_) (fun h631 => ?_)
      · rw [if_pos h631] at e
        refine mm_T.seg (f' := (74, [some (.ref 62), some (.int x1), some (.int x2)], [(.int (-1))])) (h' := (107, o625, J, mm_rf rv sp rr w nw)) 1 rfl ?_
        cases e
        exact mm_T.ret rfl ⟨rfl, rfl⟩
      · rw [if_neg h631] at e
        refine mm_T.seg (f' := (32, [some (.ref 62), some (.int x1), some (.int x2)], [(.ref 84)])) (h' := (107, o625, J, mm_rf rv sp rr w nw)) 2 rfl ?_
        refine mm_T.seg (f' := (36, [some (.ref 62), some (.int x1), some (.int x2)], [(.int (20 + x1)), (.ref 84)])) (h' := (107, o625, J, mm_rf rv sp rr w nw)) 3 rfl ?_
        by_cases h632 : (20 + x1) < 0 ∨ 28 ≤ (20 + x1).toNatClampNeg
        · rw [if_pos h632] at e; cases e
        rw [if_neg h632] at e
        refine mm_T.guard (c := (20 + x1) < 0 ∨ 28 ≤ (20 + x1).toNatClampNeg) (y := ((37, [some (.ref 62), some (.int x1), some (.int x2)], [(.int (o625 84 (20 + x1).toNatClampNeg))]), (107, o625, J, mm_rf rv sp rr w nw))) (mm_gen (P := fun z => mm_stp none 272 (36, [some (.ref 62), some (.int x1), some (.int x2)], [(.int z), (.ref 84)]) (107, o625, J, mm_rf rv sp rr w nw) = if z < 0 ∨ 28 ≤ z.toNatClampNeg then none else some (.inl ((37, [some (.ref 62), some (.int x1), some (.int x2)], [(.int (o625 84 z.toNatClampNeg))]), (107, o625, J, mm_rf rv sp rr w nw)))) (20 + x1) (fun z => rfl)) h632 ?_
        refine mm_T.seg (f' := (42, [some (.ref 62), some (.int x1), some (.int x2)], [(.ref 84), (.ref 62), (.int (o625 84 (20 + x1).toNatClampNeg))])) (h' := (107, o625, J, mm_rf rv sp rr w nw)) 3 rfl ?_
        refine mm_T.seg (f' := (45, [some (.ref 62), some (.int x1), some (.int x2)], [(.int (4 + x2)), (.ref 84), (.ref 62), (.int (o625 84 (20 + x1).toNatClampNeg))])) (h' := (107, o625, J, mm_rf rv sp rr w nw)) 3 rfl ?_
        by_cases h633 : (4 + x2) < 0 ∨ 28 ≤ (4 + x2).toNatClampNeg
        · rw [if_pos h633] at e; cases e
        rw [if_neg h633] at e
        refine mm_T.guard (c := (4 + x2) < 0 ∨ 28 ≤ (4 + x2).toNatClampNeg) (y := ((46, [some (.ref 62), some (.int x1), some (.int x2)], [(.int (o625 84 (4 + x2).toNatClampNeg)), (.ref 62), (.int (o625 84 (20 + x1).toNatClampNeg))]), (107, o625, J, mm_rf rv sp rr w nw))) (mm_gen (P := fun z => mm_stp none 272 (45, [some (.ref 62), some (.int x1), some (.int x2)], [(.int z), (.ref 84), (.ref 62), (.int (o625 84 (20 + x1).toNatClampNeg))]) (107, o625, J, mm_rf rv sp rr w nw) = if z < 0 ∨ 28 ≤ z.toNatClampNeg then none else some (.inl ((46, [some (.ref 62), some (.int x1), some (.int x2)], [(.int (o625 84 z.toNatClampNeg)), (.ref 62), (.int (o625 84 (20 + x1).toNatClampNeg))]), (107, o625, J, mm_rf rv sp rr w nw)))) (4 + x2) (fun z => rfl)) h633 ?_
        obtain ⟨g136, hg136⟩ : ∃ z, fX12_bankOf (o625 84 (4 + x2).toNatClampNeg) = z := ⟨_, rfl⟩
        try rw [hg136] at e
        refine mm_T.call (t := 271) (as := [(.ref 62), (.int (o625 84 (4 + x2).toNatClampNeg))]) (f' := (49, [some (.ref 62), some (.int x1), some (.int x2)], [(.int (o625 84 (20 + x1).toNatClampNeg))])) rfl (tX12_bankOf (d + 1) (o625 84 (4 + x2).toNatClampNeg) o625 J rv sp rr w nw g136 hg136) (fun v h hq => ?_)
        obtain ⟨rfl, rfl⟩ := hq
        refine mm_T.br (c := (o625 84 (20 + x1).toNatClampNeg) = g136) (a := ((52, [some (.ref 62), some (.int x1), some (.int x2)], []), (107, o625, J, mm_rf rv sp rr w nw))) (b := ((73, [some (.ref 62), some (.int x1), some (.int x2)], []), (107, o625, J, mm_rf rv sp rr w nw))) rfl (fun h634 => ?_) (fun h634 => ?_)
        · rw [if_pos h634] at e
          refine mm_T.seg (f' := (54, [some (.ref 62), some (.int x1), some (.int x2)], [(.int x2), (.ref 62)])) (h' := (107, o625, J, mm_rf rv sp rr w nw)) 2 rfl ?_
          obtain ⟨o635, eo635, e⟩ := mm_bind e
          refine mm_T.call (t := 240) (as := [(.ref 62), (.int x2)]) (f' := (57, [some (.ref 62), some (.int x1), some (.int x2)], [])) rfl (tX12_burdenOf (d + 1) n x2 o625 J rv sp rr w nw o635 eo635) (fun v h hq => ?_)
          obtain ⟨rfl, rfl⟩ := hq
          refine mm_T.seg (f' := (61, [some (.ref 62), some (.int x1), some (.int x2)], [(.ref 83), (.int o635)])) (h' := (107, o625, J, mm_rf rv sp rr w nw)) 2 rfl ?_
          refine mm_T.seg (f' := (62, [some (.ref 62), some (.int x1), some (.int x2)], [(.int x1), (.ref 83), (.int o635)])) (h' := (107, o625, J, mm_rf rv sp rr w nw)) 1 rfl ?_
          by_cases h636 : x1 < 0 ∨ 7 ≤ x1.toNatClampNeg
          · rw [if_pos h636] at e; cases e
          rw [if_neg h636] at e
          refine mm_T.guard (y := ((63, [some (.ref 62), some (.int x1), some (.int x2)], [(.int (o625 83 x1.toNatClampNeg)), (.int o635)]), (107, o625, J, mm_rf rv sp rr w nw))) rfl h636 ?_
          refine mm_T.seg (f' := (68, [some (.ref 62), some (.int x1), some (.int x2)], [(.ref 80), (.int (o635 + (o625 83 x1.toNatClampNeg)))])) (h' := (107, o625, J, mm_rf rv sp rr w nw)) 3 rfl ?_
          refine mm_T.seg (f' := (69, [some (.ref 62), some (.int x1), some (.int x2)], [(.int x2), (.ref 80), (.int (o635 + (o625 83 x1.toNatClampNeg)))])) (h' := (107, o625, J, mm_rf rv sp rr w nw)) 1 rfl ?_
          by_cases h637 : x2 < 0 ∨ 4 ≤ x2.toNatClampNeg
          · rw [if_pos h637] at e; cases e
          rw [if_neg h637] at e
          refine mm_T.guard (y := ((70, [some (.ref 62), some (.int x1), some (.int x2)], [(.int (o625 80 x2.toNatClampNeg)), (.int (o635 + (o625 83 x1.toNatClampNeg)))]), (107, o625, J, mm_rf rv sp rr w nw))) rfl h637 ?_
          refine mm_T.br (c := (o625 80 x2.toNatClampNeg) < (o635 + (o625 83 x1.toNatClampNeg))) (a := ((73, [some (.ref 62), some (.int x1), some (.int x2)], []), (107, o625, J, mm_rf rv sp rr w nw))) (b := ((75, [some (.ref 62), some (.int x1), some (.int x2)], []), (107, o625, J, mm_rf rv sp rr w nw))) rfl (fun h638 => ?_) (fun h638 => ?_)
          · rw [if_pos h638] at e
            refine mm_T.seg (f' := (74, [some (.ref 62), some (.int x1), some (.int x2)], [(.int (-1))])) (h' := (107, o625, J, mm_rf rv sp rr w nw)) 1 rfl ?_
            cases e
            exact mm_T.ret rfl ⟨rfl, rfl⟩
          · rw [if_neg h638] at e
            refine mm_T.seg (f' := (76, [some (.ref 62), some (.int x1), some (.int x2)], [(.ref 62)])) (h' := (107, o625, J, mm_rf rv sp rr w nw)) 1 rfl ?_
            obtain ⟨o639, eo639, e⟩ := mm_bind e
            refine mm_T.call (t := 267) (as := [(.ref 62)]) (f' := (79, [some (.ref 62), some (.int x1), some (.int x2)], [])) rfl (tX12_act (d + 0) n o625 J rv sp rr w nw o639 eo639) (fun v h hq => ?_)
            obtain ⟨rfl, rfl⟩ := hq
            refine mm_T.seg (f' := (83, [some (.ref 62), some (.int x1), some (.int x2)], [(.ref 85)])) (h' := (107, o639, J, mm_rf rv sp rr w nw)) 2 rfl ?_
            refine mm_T.seg (f' := (88, [some (.ref 62), some (.int x1), some (.int x2)], [(.int x2), (.int (20 + x1)), (.ref 85)])) (h' := (107, o639, J, mm_rf rv sp rr w nw)) 4 rfl ?_
            by_cases h640 : (20 + x1) < 0 ∨ 28 ≤ (20 + x1).toNatClampNeg
            · rw [if_pos h640] at e; cases e
            rw [if_neg h640] at e
            refine mm_T.guard (c := (20 + x1) < 0 ∨ 28 ≤ (20 + x1).toNatClampNeg) (y := ((89, [some (.ref 62), some (.int x1), some (.int x2)], []), (107, (mm_up o639 85 (20 + x1).toNatClampNeg x2), J, mm_rf rv sp rr w nw))) (mm_gen (P := fun z => mm_stp none 272 (88, [some (.ref 62), some (.int x1), some (.int x2)], [(.int x2), (.int z), (.ref 85)]) (107, o639, J, mm_rf rv sp rr w nw) = if z < 0 ∨ 28 ≤ z.toNatClampNeg then none else some (.inl ((89, [some (.ref 62), some (.int x1), some (.int x2)], []), (107, (mm_up o639 85 z.toNatClampNeg x2), J, mm_rf rv sp rr w nw)))) (20 + x1) (fun z => rfl)) h640 ?_
            refine mm_T.seg (f' := (90, [some (.ref 62), some (.int x1), some (.int x2)], [(.ref 62)])) (h' := (107, (mm_up o639 85 (20 + x1).toNatClampNeg x2), J, mm_rf rv sp rr w nw)) 1 rfl ?_
            obtain ⟨o641, eo641, e⟩ := mm_bind e
            refine mm_T.call (t := 257) (as := [(.ref 62)]) (f' := (93, [some (.ref 62), some (.int x1), some (.int x2)], [])) rfl (tX12_keepAir (d + 1) n (mm_up o639 85 (20 + x1).toNatClampNeg x2) J rv sp rr w nw o641 eo641) (fun v h hq => ?_)
            obtain ⟨rfl, rfl⟩ := hq
            refine mm_T.seg (f' := (95, [some (.ref 62), some (.int x1), some (.int x2)], [(.int x2), (.ref 62)])) (h' := (107, o641, J, mm_rf rv sp rr w nw)) 2 rfl ?_
            obtain ⟨o642, eo642, e⟩ := mm_bind e
            refine mm_T.call (t := 240) (as := [(.ref 62), (.int x2)]) (f' := (98, [some (.ref 62), some (.int x1), some (.int x2)], [])) rfl (tX12_burdenOf (d + 1) n x2 o641 J rv sp rr w nw o642 eo642) (fun v h hq => ?_)
            obtain ⟨rfl, rfl⟩ := hq
            cases e
            exact mm_T.ret rfl ⟨rfl, rfl⟩
        · rw [if_neg h634] at e
          refine mm_T.seg (f' := (74, [some (.ref 62), some (.int x1), some (.int x2)], [(.int (-1))])) (h' := (107, o625, J, mm_rf rv sp rr w nw)) 1 rfl ?_
          cases e
          exact mm_T.ret rfl ⟨rfl, rfl⟩
set_option maxRecDepth 100000 in
set_option maxHeartbeats 4000000 in
theorem tX12_take (d n : Nat) (x1 : Int32) (I : Nat → Nat → Int32) (J : Nat → Nat → Int64) (rv sp rr w nw : Nat) (out : Int32 × (Nat → Nat → Int32)) (e : fX12_take n x1 I = some out) : mm_T none (d + 2) 273 (mm_ent 273 [(.ref 62), (.int x1)]) (107, I, J, mm_rf rv sp rr w nw) (fun v h => v = some (.int out.1) ∧ h = (107, out.2, J, mm_rf rv sp rr w nw)) := by
  unfold fX12_take at e
  refine mm_T.seg (f' := (2, [some (.ref 62), some (.int x1), none], [(.int x1), (.ref 62)])) (h' := (107, I, J, mm_rf rv sp rr w nw)) 2 rfl ?_
  obtain ⟨o643, eo643, e⟩ := mm_bind e
  refine mm_T.call (t := 254) (as := [(.ref 62), (.int x1)]) (f' := (5, [some (.ref 62), some (.int x1), none], [])) rfl (tX12_isLoad (d + 0) x1 I J rv sp rr w nw o643 eo643) (fun v h hq => ?_)
  obtain ⟨rfl, rfl⟩ := hq
  refine mm_T.br (c := o643 = 0) (a := ((36, [some (.ref 62), some (.int x1), none], []), (107, I, J, mm_rf rv sp rr w nw))) (b := ((8, [some (.ref 62), some (.int x1), none], []), (107, I, J, mm_rf rv sp rr w nw))) rfl (fun h644 => ?_) (fun h644 => ?_)
  · rw [if_pos h644] at e
    refine mm_T.seg (f' := (37, [some (.ref 62), some (.int x1), none], [(.int (-1))])) (h' := (107, I, J, mm_rf rv sp rr w nw)) 1 rfl ?_
    cases e
    exact mm_T.ret rfl ⟨rfl, rfl⟩
  · rw [if_neg h644] at e
    refine mm_T.seg (f' := (12, [some (.ref 62), some (.int x1), none], [(.ref 84)])) (h' := (107, I, J, mm_rf rv sp rr w nw)) 2 rfl ?_
    refine mm_T.seg (f' := (16, [some (.ref 62), some (.int x1), none], [(.int (20 + x1)), (.ref 84)])) (h' := (107, I, J, mm_rf rv sp rr w nw)) 3 rfl ?_
    by_cases h645 : (20 + x1) < 0 ∨ 28 ≤ (20 + x1).toNatClampNeg
    · rw [if_pos h645] at e; cases e
    rw [if_neg h645] at e
    refine mm_T.guard (c := (20 + x1) < 0 ∨ 28 ≤ (20 + x1).toNatClampNeg) (y := ((17, [some (.ref 62), some (.int x1), none], [(.int (I 84 (20 + x1).toNatClampNeg))]), (107, I, J, mm_rf rv sp rr w nw))) (mm_gen (P := fun z => mm_stp none 273 (16, [some (.ref 62), some (.int x1), none], [(.int z), (.ref 84)]) (107, I, J, mm_rf rv sp rr w nw) = if z < 0 ∨ 28 ≤ z.toNatClampNeg then none else some (.inl ((17, [some (.ref 62), some (.int x1), none], [(.int (I 84 z.toNatClampNeg))]), (107, I, J, mm_rf rv sp rr w nw)))) (20 + x1) (fun z => rfl)) h645 ?_
    refine mm_T.br (c := (I 84 (20 + x1).toNatClampNeg) < 0) (a := ((36, [some (.ref 62), some (.int x1), none], []), (107, I, J, mm_rf rv sp rr w nw))) (b := ((20, [some (.ref 62), some (.int x1), none], []), (107, I, J, mm_rf rv sp rr w nw))) rfl (fun h646 => ?_) (fun h646 => ?_)
    · rw [if_pos h646] at e
      refine mm_T.seg (f' := (37, [some (.ref 62), some (.int x1), none], [(.int (-1))])) (h' := (107, I, J, mm_rf rv sp rr w nw)) 1 rfl ?_
      cases e
      exact mm_T.ret rfl ⟨rfl, rfl⟩
    · rw [if_neg h646] at e
      refine mm_T.seg (f' := (25, [some (.ref 62), some (.int x1), none], [(.ref 84), (.ref 62)])) (h' := (107, I, J, mm_rf rv sp rr w nw)) 3 rfl ?_
      refine mm_T.seg (f' := (29, [some (.ref 62), some (.int x1), none], [(.int (20 + x1)), (.ref 84), (.ref 62)])) (h' := (107, I, J, mm_rf rv sp rr w nw)) 3 rfl ?_
      by_cases h647 : (20 + x1) < 0 ∨ 28 ≤ (20 + x1).toNatClampNeg
      · rw [if_pos h647] at e; cases e
      rw [if_neg h647] at e
      refine mm_T.guard (c := (20 + x1) < 0 ∨ 28 ≤ (20 + x1).toNatClampNeg) (y := ((30, [some (.ref 62), some (.int x1), none], [(.int (I 84 (20 + x1).toNatClampNeg)), (.ref 62)]), (107, I, J, mm_rf rv sp rr w nw))) (mm_gen (P := fun z => mm_stp none 273 (29, [some (.ref 62), some (.int x1), none], [(.int z), (.ref 84), (.ref 62)]) (107, I, J, mm_rf rv sp rr w nw) = if z < 0 ∨ 28 ≤ z.toNatClampNeg then none else some (.inl ((30, [some (.ref 62), some (.int x1), none], [(.int (I 84 z.toNatClampNeg)), (.ref 62)]), (107, I, J, mm_rf rv sp rr w nw)))) (20 + x1) (fun z => rfl)) h647 ?_
      obtain ⟨o648, eo648, e⟩ := mm_bind e
      refine mm_T.call (t := 270) (as := [(.ref 62), (.int (I 84 (20 + x1).toNatClampNeg))]) (f' := (33, [some (.ref 62), some (.int x1), none], [])) rfl (tX12_isAtBank (d + 1) (I 84 (20 + x1).toNatClampNeg) I J rv sp rr w nw o648 eo648) (fun v h hq => ?_)
      obtain ⟨rfl, rfl⟩ := hq
      refine mm_T.br (c := o648 = 0) (a := ((36, [some (.ref 62), some (.int x1), none], []), (107, I, J, mm_rf rv sp rr w nw))) (b := ((38, [some (.ref 62), some (.int x1), none], []), (107, I, J, mm_rf rv sp rr w nw))) rfl (fun h649 => ?_) (fun h649 => ?_)
      · rw [if_pos h649] at e
        refine mm_T.seg (f' := (37, [some (.ref 62), some (.int x1), none], [(.int (-1))])) (h' := (107, I, J, mm_rf rv sp rr w nw)) 1 rfl ?_
        cases e
        exact mm_T.ret rfl ⟨rfl, rfl⟩
      · rw [if_neg h649] at e
        refine mm_T.seg (f' := (39, [some (.ref 62), some (.int x1), none], [(.ref 62)])) (h' := (107, I, J, mm_rf rv sp rr w nw)) 1 rfl ?_
        obtain ⟨o650, eo650, e⟩ := mm_bind e
        refine mm_T.call (t := 267) (as := [(.ref 62)]) (f' := (42, [some (.ref 62), some (.int x1), none], [])) rfl (tX12_act (d + 0) n I J rv sp rr w nw o650 eo650) (fun v h hq => ?_)
        obtain ⟨rfl, rfl⟩ := hq
        refine mm_T.seg (f' := (46, [some (.ref 62), some (.int x1), none], [(.ref 84)])) (h' := (107, o650, J, mm_rf rv sp rr w nw)) 2 rfl ?_
        refine mm_T.seg (f' := (50, [some (.ref 62), some (.int x1), none], [(.int (20 + x1)), (.ref 84)])) (h' := (107, o650, J, mm_rf rv sp rr w nw)) 3 rfl ?_
        by_cases h651 : (20 + x1) < 0 ∨ 28 ≤ (20 + x1).toNatClampNeg
        · rw [if_pos h651] at e; cases e
        rw [if_neg h651] at e
        refine mm_T.guard (c := (20 + x1) < 0 ∨ 28 ≤ (20 + x1).toNatClampNeg) (y := ((51, [some (.ref 62), some (.int x1), none], [(.int (o650 84 (20 + x1).toNatClampNeg))]), (107, o650, J, mm_rf rv sp rr w nw))) (mm_gen (P := fun z => mm_stp none 273 (50, [some (.ref 62), some (.int x1), none], [(.int z), (.ref 84)]) (107, o650, J, mm_rf rv sp rr w nw) = if z < 0 ∨ 28 ≤ z.toNatClampNeg then none else some (.inl ((51, [some (.ref 62), some (.int x1), none], [(.int (o650 84 z.toNatClampNeg))]), (107, o650, J, mm_rf rv sp rr w nw)))) (20 + x1) (fun z => rfl)) h651 ?_
        refine mm_T.seg (f' := (56, [some (.ref 62), some (.int x1), some (.int (o650 84 (20 + x1).toNatClampNeg))], [(.ref 84)])) (h' := (107, o650, J, mm_rf rv sp rr w nw)) 3 rfl ?_
        refine mm_T.seg (f' := (65, [some (.ref 62), some (.int x1), some (.int (o650 84 (20 + x1).toNatClampNeg))], [(.ref 84), (.ref 62), (.int (20 + x1)), (.ref 84)])) (h' := (107, o650, J, mm_rf rv sp rr w nw)) 6 rfl ?_
        refine mm_T.seg (f' := (68, [some (.ref 62), some (.int x1), some (.int (o650 84 (20 + x1).toNatClampNeg))], [(.int (4 + (o650 84 (20 + x1).toNatClampNeg))), (.ref 84), (.ref 62), (.int (20 + x1)), (.ref 84)])) (h' := (107, o650, J, mm_rf rv sp rr w nw)) 3 rfl ?_
        by_cases h652 : (4 + (o650 84 (20 + x1).toNatClampNeg)) < 0 ∨ 28 ≤ (4 + (o650 84 (20 + x1).toNatClampNeg)).toNatClampNeg
        · rw [if_pos h652] at e; cases e
        rw [if_neg h652] at e
        refine mm_T.guard (c := (4 + (o650 84 (20 + x1).toNatClampNeg)) < 0 ∨ 28 ≤ (4 + (o650 84 (20 + x1).toNatClampNeg)).toNatClampNeg) (y := ((69, [some (.ref 62), some (.int x1), some (.int (o650 84 (20 + x1).toNatClampNeg))], [(.int (o650 84 (4 + (o650 84 (20 + x1).toNatClampNeg)).toNatClampNeg)), (.ref 62), (.int (20 + x1)), (.ref 84)]), (107, o650, J, mm_rf rv sp rr w nw))) (mm_gen (P := fun z => mm_stp none 273 (68, [some (.ref 62), some (.int x1), some (.int (o650 84 (20 + x1).toNatClampNeg))], [(.int z), (.ref 84), (.ref 62), (.int (20 + x1)), (.ref 84)]) (107, o650, J, mm_rf rv sp rr w nw) = if z < 0 ∨ 28 ≤ z.toNatClampNeg then none else some (.inl ((69, [some (.ref 62), some (.int x1), some (.int (o650 84 (20 + x1).toNatClampNeg))], [(.int (o650 84 z.toNatClampNeg)), (.ref 62), (.int (20 + x1)), (.ref 84)]), (107, o650, J, mm_rf rv sp rr w nw)))) (4 + (o650 84 (20 + x1).toNatClampNeg)) (fun z => rfl)) h652 ?_
        refine mm_T.call (t := 271) (as := [(.ref 62), (.int (o650 84 (4 + (o650 84 (20 + x1).toNatClampNeg)).toNatClampNeg))]) (f' := (72, [some (.ref 62), some (.int x1), some (.int (o650 84 (20 + x1).toNatClampNeg))], [(.int (20 + x1)), (.ref 84)])) rfl (tX12_bankOf (d + 1) (o650 84 (4 + (o650 84 (20 + x1).toNatClampNeg)).toNatClampNeg) o650 J rv sp rr w nw _ rfl) (fun v h hq => ?_)
        obtain ⟨rfl, rfl⟩ := hq
        by_cases h653 : (20 + x1) < 0 ∨ 28 ≤ (20 + x1).toNatClampNeg
        · rw [if_pos h653] at e; cases e
        rw [if_neg h653] at e
        refine mm_T.guard (c := (20 + x1) < 0 ∨ 28 ≤ (20 + x1).toNatClampNeg) (y := ((73, [some (.ref 62), some (.int x1), some (.int (o650 84 (20 + x1).toNatClampNeg))], []), (107, (mm_up o650 84 (20 + x1).toNatClampNeg (fX12_bankOf (o650 84 (4 + (o650 84 (20 + x1).toNatClampNeg)).toNatClampNeg))), J, mm_rf rv sp rr w nw))) (mm_gen (P := fun z => mm_stp none 273 (72, [some (.ref 62), some (.int x1), some (.int (o650 84 z.toNatClampNeg))], [(.int (fX12_bankOf (o650 84 (4 + (o650 84 z.toNatClampNeg)).toNatClampNeg))), (.int z), (.ref 84)]) (107, o650, J, mm_rf rv sp rr w nw) = if z < 0 ∨ 28 ≤ z.toNatClampNeg then none else some (.inl ((73, [some (.ref 62), some (.int x1), some (.int (o650 84 z.toNatClampNeg))], []), (107, (mm_up o650 84 z.toNatClampNeg (fX12_bankOf (o650 84 (4 + (o650 84 z.toNatClampNeg)).toNatClampNeg))), J, mm_rf rv sp rr w nw)))) (20 + x1) (fun z => rfl)) h653 ?_
        refine mm_T.seg (f' := (74, [some (.ref 62), some (.int x1), some (.int (o650 84 (20 + x1).toNatClampNeg))], [(.int (o650 84 (20 + x1).toNatClampNeg))])) (h' := (107, (mm_up o650 84 (20 + x1).toNatClampNeg (fX12_bankOf (o650 84 (4 + (o650 84 (20 + x1).toNatClampNeg)).toNatClampNeg))), J, mm_rf rv sp rr w nw)) 1 rfl ?_
        cases e
        exact mm_T.ret rfl ⟨rfl, rfl⟩
set_option maxRecDepth 100000 in
set_option maxHeartbeats 4000000 in
theorem tX12_cool (d n : Nat) (x1 : Int32) (x2 : Int32) (I : Nat → Nat → Int32) (J : Nat → Nat → Int64) (rv sp rr w nw : Nat) (out : Int32 × (Nat → Nat → Int32)) (e : fX12_cool n x1 x2 I = some out) : mm_T none (d + 2) 274 (mm_ent 274 [(.ref 62), (.int x1), (.int x2)]) (107, I, J, mm_rf rv sp rr w nw) (fun v h => v = some (.int out.1) ∧ h = (107, out.2, J, mm_rf rv sp rr w nw)) := by
  unfold fX12_cool at e
  refine mm_T.seg (f' := (2, [some (.ref 62), some (.int x1), some (.int x2)], [(.int x1), (.ref 62)])) (h' := (107, I, J, mm_rf rv sp rr w nw)) 2 rfl ?_
  obtain ⟨o654, eo654, e⟩ := mm_bind e
  refine mm_T.call (t := 253) (as := [(.ref 62), (.int x1)]) (f' := (5, [some (.ref 62), some (.int x1), some (.int x2)], [])) rfl (tX12_isBoard (d + 0) x1 I J rv sp rr w nw o654 eo654) (fun v h hq => ?_)
  obtain ⟨rfl, rfl⟩ := hq
  refine mm_T.br (c := o654 = 0) (a := ((18, [some (.ref 62), some (.int x1), some (.int x2)], []), (107, I, J, mm_rf rv sp rr w nw))) (b := ((8, [some (.ref 62), some (.int x1), some (.int x2)], []), (107, I, J, mm_rf rv sp rr w nw))) rfl (fun h655 => ?_) (fun h655 => ?_)
  · rw [if_pos h655] at e
    refine mm_T.seg (f' := (19, [some (.ref 62), some (.int x1), some (.int x2)], [(.int (-1))])) (h' := (107, I, J, mm_rf rv sp rr w nw)) 1 rfl ?_
    cases e
    exact mm_T.ret rfl ⟨rfl, rfl⟩
  · rw [if_neg h655] at e
    refine mm_T.seg (f' := (12, [some (.ref 62), some (.int x1), some (.int x2)], [(.int 9), (.int 1), (.int x2)])) (h' := (107, I, J, mm_rf rv sp rr w nw)) 3 rfl ?_
    refine mm_T.call (t := 252) (as := [(.int x2), (.int 1), (.int 9)]) (f' := (15, [some (.ref 62), some (.int x1), some (.int x2)], [])) rfl (tX12_isIn (d + 1) x2 1 9 I J rv sp rr w nw _ rfl) (fun v h hq => ?_)
    obtain ⟨rfl, rfl⟩ := hq
    refine mm_T.br (c := (fX12_isIn x2 1 9) = 0) (a := ((18, [some (.ref 62), some (.int x1), some (.int x2)], []), (107, I, J, mm_rf rv sp rr w nw))) (b := ((20, [some (.ref 62), some (.int x1), some (.int x2)], []), (107, I, J, mm_rf rv sp rr w nw))) rfl (fun h656 => ?_) (fun h656 => ?_)
    · rw [if_pos h656] at e
      refine mm_T.seg (f' := (19, [some (.ref 62), some (.int x1), some (.int x2)], [(.int (-1))])) (h' := (107, I, J, mm_rf rv sp rr w nw)) 1 rfl ?_
      cases e
      exact mm_T.ret rfl ⟨rfl, rfl⟩
    · rw [if_neg h656] at e
      refine mm_T.seg (f' := (21, [some (.ref 62), some (.int x1), some (.int x2)], [(.ref 62)])) (h' := (107, I, J, mm_rf rv sp rr w nw)) 1 rfl ?_
      obtain ⟨o657, eo657, e⟩ := mm_bind e
      refine mm_T.call (t := 267) (as := [(.ref 62)]) (f' := (24, [some (.ref 62), some (.int x1), some (.int x2)], [])) rfl (tX12_act (d + 0) n I J rv sp rr w nw o657 eo657) (fun v h hq => ?_)
      obtain ⟨rfl, rfl⟩ := hq
      refine mm_T.seg (f' := (28, [some (.ref 62), some (.int x1), some (.int x2)], [(.ref 84)])) (h' := (107, o657, J, mm_rf rv sp rr w nw)) 2 rfl ?_
      refine mm_T.seg (f' := (36, [some (.ref 62), some (.int x1), some (.int x2)], [(.ref 84), (.int (8 + x1)), (.ref 84)])) (h' := (107, o657, J, mm_rf rv sp rr w nw)) 5 rfl ?_
      refine mm_T.seg (f' := (40, [some (.ref 62), some (.int x1), some (.int x2)], [(.int (8 + x1)), (.ref 84), (.int (8 + x1)), (.ref 84)])) (h' := (107, o657, J, mm_rf rv sp rr w nw)) 3 rfl ?_
      by_cases h658 : (8 + x1) < 0 ∨ 28 ≤ (8 + x1).toNatClampNeg
      · rw [if_pos h658] at e; cases e
      rw [if_neg h658] at e
      refine mm_T.guard (c := (8 + x1) < 0 ∨ 28 ≤ (8 + x1).toNatClampNeg) (y := ((41, [some (.ref 62), some (.int x1), some (.int x2)], [(.int (o657 84 (8 + x1).toNatClampNeg)), (.int (8 + x1)), (.ref 84)]), (107, o657, J, mm_rf rv sp rr w nw))) (mm_gen (P := fun z => mm_stp none 274 (40, [some (.ref 62), some (.int x1), some (.int x2)], [(.int z), (.ref 84), (.int z), (.ref 84)]) (107, o657, J, mm_rf rv sp rr w nw) = if z < 0 ∨ 28 ≤ z.toNatClampNeg then none else some (.inl ((41, [some (.ref 62), some (.int x1), some (.int x2)], [(.int (o657 84 z.toNatClampNeg)), (.int z), (.ref 84)]), (107, o657, J, mm_rf rv sp rr w nw)))) (8 + x1) (fun z => rfl)) h658 ?_
      refine mm_T.seg (f' := (45, [some (.ref 62), some (.int x1), some (.int x2)], [(.int 99), (.int ((o657 84 (8 + x1).toNatClampNeg) - x2)), (.int (8 + x1)), (.ref 84)])) (h' := (107, o657, J, mm_rf rv sp rr w nw)) 3 rfl ?_
      refine mm_T.call (t := 238) (as := [(.int ((o657 84 (8 + x1).toNatClampNeg) - x2)), (.int 99)]) (f' := (48, [some (.ref 62), some (.int x1), some (.int x2)], [(.int (8 + x1)), (.ref 84)])) rfl (tX12_within (d + 1) ((o657 84 (8 + x1).toNatClampNeg) - x2) 99 o657 J rv sp rr w nw _ rfl) (fun v h hq => ?_)
      obtain ⟨rfl, rfl⟩ := hq
      by_cases h659 : (8 + x1) < 0 ∨ 28 ≤ (8 + x1).toNatClampNeg
      · rw [if_pos h659] at e; cases e
      rw [if_neg h659] at e
      refine mm_T.guard (c := (8 + x1) < 0 ∨ 28 ≤ (8 + x1).toNatClampNeg) (y := ((49, [some (.ref 62), some (.int x1), some (.int x2)], []), (107, (mm_up o657 84 (8 + x1).toNatClampNeg (fX12_within ((o657 84 (8 + x1).toNatClampNeg) - x2) 99)), J, mm_rf rv sp rr w nw))) (mm_gen (P := fun z => mm_stp none 274 (48, [some (.ref 62), some (.int x1), some (.int x2)], [(.int (fX12_within ((o657 84 z.toNatClampNeg) - x2) 99)), (.int z), (.ref 84)]) (107, o657, J, mm_rf rv sp rr w nw) = if z < 0 ∨ 28 ≤ z.toNatClampNeg then none else some (.inl ((49, [some (.ref 62), some (.int x1), some (.int x2)], []), (107, (mm_up o657 84 z.toNatClampNeg (fX12_within ((o657 84 z.toNatClampNeg) - x2) 99)), J, mm_rf rv sp rr w nw)))) (8 + x1) (fun z => rfl)) h659 ?_
      refine mm_T.seg (f' := (53, [some (.ref 62), some (.int x1), some (.int x2)], [(.ref 84)])) (h' := (107, (mm_up o657 84 (8 + x1).toNatClampNeg (fX12_within ((o657 84 (8 + x1).toNatClampNeg) - x2) 99)), J, mm_rf rv sp rr w nw)) 2 rfl ?_
      refine mm_T.seg (f' := (57, [some (.ref 62), some (.int x1), some (.int x2)], [(.int (8 + x1)), (.ref 84)])) (h' := (107, (mm_up o657 84 (8 + x1).toNatClampNeg (fX12_within ((o657 84 (8 + x1).toNatClampNeg) - x2) 99)), J, mm_rf rv sp rr w nw)) 3 rfl ?_
      by_cases h660 : (8 + x1) < 0 ∨ 28 ≤ (8 + x1).toNatClampNeg
      · rw [if_pos h660] at e; cases e
      rw [if_neg h660] at e
      refine mm_T.guard (c := (8 + x1) < 0 ∨ 28 ≤ (8 + x1).toNatClampNeg) (y := ((58, [some (.ref 62), some (.int x1), some (.int x2)], [(.int ((mm_up o657 84 (8 + x1).toNatClampNeg (fX12_within ((o657 84 (8 + x1).toNatClampNeg) - x2) 99)) 84 (8 + x1).toNatClampNeg))]), (107, (mm_up o657 84 (8 + x1).toNatClampNeg (fX12_within ((o657 84 (8 + x1).toNatClampNeg) - x2) 99)), J, mm_rf rv sp rr w nw))) (mm_gen (P := fun z => mm_stp none 274 (57, [some (.ref 62), some (.int x1), some (.int x2)], [(.int z), (.ref 84)]) (107, (mm_up o657 84 z.toNatClampNeg (fX12_within ((o657 84 z.toNatClampNeg) - x2) 99)), J, mm_rf rv sp rr w nw) = if z < 0 ∨ 28 ≤ z.toNatClampNeg then none else some (.inl ((58, [some (.ref 62), some (.int x1), some (.int x2)], [(.int ((mm_up o657 84 z.toNatClampNeg (fX12_within ((o657 84 z.toNatClampNeg) - x2) 99)) 84 z.toNatClampNeg))]), (107, (mm_up o657 84 z.toNatClampNeg (fX12_within ((o657 84 z.toNatClampNeg) - x2) 99)), J, mm_rf rv sp rr w nw)))) (8 + x1) (fun z => rfl)) h660 ?_
      cases e
      exact mm_T.ret rfl ⟨rfl, rfl⟩
set_option maxRecDepth 100000 in
set_option maxHeartbeats 4000000 in
theorem tX12_undo (d n : Nat) (I : Nat → Nat → Int32) (J : Nat → Nat → Int64) (rv sp rr w nw : Nat) (out : Int32 × (Nat → Nat → Int32)) (e : fX12_undo n I = some out) : mm_T none (d + 1) 275 (mm_ent 275 [(.ref 62)]) (107, I, J, mm_rf rv sp rr w nw) (fun v h => v = some (.int out.1) ∧ h = (107, out.2, J, mm_rf rv sp rr w nw)) := by
  unfold fX12_undo at e
  refine mm_T.seg (f' := (4, [some (.ref 62)], [(.int (I 62 57))])) (h' := (107, I, J, mm_rf rv sp rr w nw)) 2 rfl ?_
  refine mm_T.br (c := (I 62 57) = 0) (a := ((7, [some (.ref 62)], []), (107, I, J, mm_rf rv sp rr w nw))) (b := ((9, [some (.ref 62)], []), (107, I, J, mm_rf rv sp rr w nw))) rfl (fun h661 => ?_) (fun h661 => ?_)
  · rw [if_pos h661] at e
    refine mm_T.seg (f' := (8, [some (.ref 62)], [(.int 0)])) (h' := (107, I, J, mm_rf rv sp rr w nw)) 1 rfl ?_
    cases e
    exact mm_T.ret rfl ⟨rfl, rfl⟩
  · rw [if_neg h661] at e
    refine mm_T.seg (f' := (37, [some (.ref 62)], [(.int (28 * ((I 62 57) - 1))), (.ref 62)])) (h' := (107, (mm_up (mm_up I 62 57 ((I 62 57) - 1)) 62 58 ((I 62 58) + 1)), J, mm_rf rv sp rr w nw)) 17 rfl ?_
    obtain ⟨o662, eo662, e⟩ := mm_bind e
    refine mm_T.call (t := 268) (as := [(.ref 62), (.int (28 * ((I 62 57) - 1)))]) (f' := (40, [some (.ref 62)], [])) rfl (tX12_exchange (d + 0) n (28 * ((I 62 57) - 1)) (mm_up (mm_up I 62 57 ((I 62 57) - 1)) 62 58 ((I 62 58) + 1)) J rv sp rr w nw o662 eo662) (fun v h hq => ?_)
    obtain ⟨rfl, rfl⟩ := hq
    refine mm_T.seg (f' := (41, [some (.ref 62)], [(.int 1)])) (h' := (107, o662, J, mm_rf rv sp rr w nw)) 1 rfl ?_
    cases e
    exact mm_T.ret rfl ⟨rfl, rfl⟩
set_option maxRecDepth 100000 in
set_option maxHeartbeats 4000000 in
theorem tX12_redo (d n : Nat) (I : Nat → Nat → Int32) (J : Nat → Nat → Int64) (rv sp rr w nw : Nat) (out : Int32 × (Nat → Nat → Int32)) (e : fX12_redo n I = some out) : mm_T none (d + 1) 276 (mm_ent 276 [(.ref 62)]) (107, I, J, mm_rf rv sp rr w nw) (fun v h => v = some (.int out.1) ∧ h = (107, out.2, J, mm_rf rv sp rr w nw)) := by
  unfold fX12_redo at e
  refine mm_T.seg (f' := (4, [some (.ref 62)], [(.int (I 62 58))])) (h' := (107, I, J, mm_rf rv sp rr w nw)) 2 rfl ?_
  refine mm_T.br (c := (I 62 58) = 0) (a := ((7, [some (.ref 62)], []), (107, I, J, mm_rf rv sp rr w nw))) (b := ((9, [some (.ref 62)], []), (107, I, J, mm_rf rv sp rr w nw))) rfl (fun h663 => ?_) (fun h663 => ?_)
  · rw [if_pos h663] at e
    refine mm_T.seg (f' := (8, [some (.ref 62)], [(.int 0)])) (h' := (107, I, J, mm_rf rv sp rr w nw)) 1 rfl ?_
    cases e
    exact mm_T.ret rfl ⟨rfl, rfl⟩
  · rw [if_neg h663] at e
    refine mm_T.seg (f' := (17, [some (.ref 62)], [(.int (28 * (I 62 57))), (.ref 62)])) (h' := (107, I, J, mm_rf rv sp rr w nw)) 5 rfl ?_
    obtain ⟨o664, eo664, e⟩ := mm_bind e
    refine mm_T.call (t := 268) (as := [(.ref 62), (.int (28 * (I 62 57)))]) (f' := (20, [some (.ref 62)], [])) rfl (tX12_exchange (d + 0) n (28 * (I 62 57)) I J rv sp rr w nw o664 eo664) (fun v h hq => ?_)
    obtain ⟨rfl, rfl⟩ := hq
    refine mm_T.seg (f' := (41, [some (.ref 62)], [(.int 1)])) (h' := (107, (mm_up (mm_up o664 62 57 ((o664 62 57) + 1)) 62 58 ((o664 62 58) - 1)), J, mm_rf rv sp rr w nw)) 13 rfl ?_
    cases e
    exact mm_T.ret rfl ⟨rfl, rfl⟩
set_option maxRecDepth 100000 in
set_option maxHeartbeats 4000000 in
theorem tlX12_power_L4 (d : Nat) (Q : Option Value → mm_H → Prop) : ∀ (n : Nat) (y0 : Int32) (y1 : Int32) (y2 : Int32) (y3 : Int32) (I : Nat → Nat → Int32) (J : Nat → Nat → Int64) (rv sp rr w nw : Nat), ∀ (out : Int32), fX12_power_L4 n y0 y1 y2 y3 = some out → mm_T none (d + 0) 277 (19, [none, none, some (.int out), none], []) (107, I, J, mm_rf rv sp rr w nw) Q → mm_T none (d + 0) 277 (4, [some (.int y0), some (.int y1), some (.int y2), some (.int y3)], []) (107, I, J, mm_rf rv sp rr w nw) Q := by
  intro n
  induction n with
  | zero =>
    intro y0 y1 y2 y3 I J rv sp rr w nw out e k
    rw [fX12_power_L4] at e; cases e
  | succ n ih =>
    intro y0 y1 y2 y3 I J rv sp rr w nw out e k
    rw [fX12_power_L4] at e
    refine mm_T.seg (f' := (6, [some (.int y0), some (.int y1), some (.int y2), some (.int y3)], [(.int y1), (.int y3)])) (h' := (107, I, J, mm_rf rv sp rr w nw)) 2 rfl ?_
    refine mm_T.br (c := y3 < y1) (a := ((9, [some (.int y0), some (.int y1), some (.int y2), some (.int y3)], []), (107, I, J, mm_rf rv sp rr w nw))) (b := ((19, [some (.int y0), some (.int y1), some (.int y2), some (.int y3)], []), (107, I, J, mm_rf rv sp rr w nw))) rfl (fun h665 => ?_) (fun h665 => ?_)
    · rw [if_pos h665] at e
      refine mm_T.seg (f' := (4, [some (.int y0), some (.int y1), some (.int (y2 * y0)), some (.int (y3 + 1))], [])) (h' := (107, I, J, mm_rf rv sp rr w nw)) 6 rfl ?_
      refine mm_T.mask [true, true, true, true] ?_
      exact ih y0 y1 (y2 * y0) (y3 + 1) I J rv sp rr w nw out e k
    · rw [if_neg h665] at e
      cases e
      refine mm_T.mask [false, false, true, false] ?_
      exact k
set_option maxRecDepth 100000 in
set_option maxHeartbeats 4000000 in
theorem tX12_power (d n : Nat) (x0 : Int32) (x1 : Int32) (I : Nat → Nat → Int32) (J : Nat → Nat → Int64) (rv sp rr w nw : Nat) (out : Int32) (e : fX12_power n x0 x1 = some out) : mm_T none (d + 0) 277 (mm_ent 277 [(.int x0), (.int x1)]) (107, I, J, mm_rf rv sp rr w nw) (fun v h => v = some (.int out) ∧ h = (107, I, J, mm_rf rv sp rr w nw)) := by
  unfold fX12_power at e
  refine mm_T.seg (f' := (4, [some (.int x0), some (.int x1), some (.int 1), some (.int 0)], [])) (h' := (107, I, J, mm_rf rv sp rr w nw)) 4 rfl ?_
  refine mm_T.mask [true, true, true, true] ?_
  obtain ⟨o666, eo666, e⟩ := mm_bind e
  refine tlX12_power_L4 d _ n x0 x1 1 0 I J rv sp rr w nw o666 eo666 ?_
  refine mm_T.seg (f' := (20, [none, none, some (.int o666), none], [(.int o666)])) (h' := (107, I, J, mm_rf rv sp rr w nw)) 1 rfl ?_
  cases e
  exact mm_T.ret rfl ⟨rfl, rfl⟩
set_option maxRecDepth 100000 in
set_option maxHeartbeats 4000000 in
theorem tX12_leftOf (d : Nat) (x1 : Int32) (I : Nat → Nat → Int32) (J : Nat → Nat → Int64) (rv sp rr w nw : Nat) (out : Int32) (e : fX12_leftOf x1 I = some out) : mm_T none (d + 0) 278 (mm_ent 278 [(.ref 62), (.int x1)]) (107, I, J, mm_rf rv sp rr w nw) (fun v h => v = some (.int out) ∧ h = (107, I, J, mm_rf rv sp rr w nw)) := by
  unfold fX12_leftOf at e
  refine mm_T.seg (f' := (8, [some (.ref 62), some (.int x1)], [(.ref 84), (.int (I 62 47))])) (h' := (107, I, J, mm_rf rv sp rr w nw)) 4 rfl ?_
  refine mm_T.seg (f' := (11, [some (.ref 62), some (.int x1)], [(.int (4 + x1)), (.ref 84), (.int (I 62 47))])) (h' := (107, I, J, mm_rf rv sp rr w nw)) 3 rfl ?_
  by_cases h667 : (4 + x1) < 0 ∨ 28 ≤ (4 + x1).toNatClampNeg
  · rw [if_pos h667] at e; cases e
  rw [if_neg h667] at e
  refine mm_T.guard (c := (4 + x1) < 0 ∨ 28 ≤ (4 + x1).toNatClampNeg) (y := ((12, [some (.ref 62), some (.int x1)], [(.int (I 84 (4 + x1).toNatClampNeg)), (.int (I 62 47))]), (107, I, J, mm_rf rv sp rr w nw))) (mm_gen (P := fun z => mm_stp none 278 (11, [some (.ref 62), some (.int x1)], [(.int z), (.ref 84), (.int (I 62 47))]) (107, I, J, mm_rf rv sp rr w nw) = if z < 0 ∨ 28 ≤ z.toNatClampNeg then none else some (.inl ((12, [some (.ref 62), some (.int x1)], [(.int (I 84 z.toNatClampNeg)), (.int (I 62 47))]), (107, I, J, mm_rf rv sp rr w nw)))) (4 + x1) (fun z => rfl)) h667 ?_
  refine mm_T.seg (f' := (13, [some (.ref 62), some (.int x1)], [(.int ((I 62 47) - (I 84 (4 + x1).toNatClampNeg)))])) (h' := (107, I, J, mm_rf rv sp rr w nw)) 1 rfl ?_
  cases e
  exact mm_T.ret rfl ⟨rfl, rfl⟩
set_option maxRecDepth 100000 in
set_option maxHeartbeats 4000000 in
theorem tlX12_goRow_L18 (d : Nat) (Q : Option Value → mm_H → Prop) : ∀ (n : Nat) (y1 : Int32) (y3 : Int32) (y4 : Int32) (y5 : Int32) (I : Nat → Nat → Int32) (J : Nat → Nat → Int64) (rv sp rr w nw : Nat), ∀ (out : (Nat → Nat → Int32)), fX12_goRow_L18 n y1 y3 y4 y5 I = some out → mm_T none (d + 4) 279 (48, [some (.ref 62), some (.int y1), none, some (.int y3), none, none, none], []) (107, out, J, mm_rf rv sp rr w nw) Q → mm_T none (d + 4) 279 (18, [some (.ref 62), some (.int y1), none, some (.int y3), some (.int y4), some (.int y5), none], []) (107, I, J, mm_rf rv sp rr w nw) Q := by
  intro n
  induction n with
  | zero =>
    intro y1 y3 y4 y5 I J rv sp rr w nw out e k
    rw [fX12_goRow_L18] at e; cases e
  | succ n ih =>
    intro y1 y3 y4 y5 I J rv sp rr w nw out e k
    rw [fX12_goRow_L18] at e
    refine mm_T.seg (f' := (20, [some (.ref 62), some (.int y1), none, some (.int y3), some (.int y4), some (.int y5), none], [(.int y5)])) (h' := (107, I, J, mm_rf rv sp rr w nw)) 1 rfl ?_
    refine mm_T.br (c := y5 < 0) (a := ((48, [some (.ref 62), some (.int y1), none, some (.int y3), some (.int y4), some (.int y5), none], []), (107, I, J, mm_rf rv sp rr w nw))) (b := ((23, [some (.ref 62), some (.int y1), none, some (.int y3), some (.int y4), some (.int y5), none], []), (107, I, J, mm_rf rv sp rr w nw))) rfl (fun h670 => ?_) (fun h670 => ?_)
    · rw [if_pos h670] at e
      cases e
      refine mm_T.mask [true, true, false, true, false, false, false] ?_
      exact k
    · rw [if_neg h670] at e
      refine mm_T.seg (f' := (27, [some (.ref 62), some (.int y1), none, some (.int y3), some (.int y4), some (.int y5), none], [(.ref 87)])) (h' := (107, I, J, mm_rf rv sp rr w nw)) 2 rfl ?_
      refine mm_T.seg (f' := (35, [some (.ref 62), some (.int y1), none, some (.int y3), some (.int y4), some (.int y5), none], [(.int ((y4 - y4 / 3 * 3) - 1)), (.int y5), (.ref 87)])) (h' := (107, I, J, mm_rf rv sp rr w nw)) 6 rfl ?_
      by_cases h671 : y5 < 0 ∨ 6 ≤ y5.toNatClampNeg
      · rw [if_pos h671] at e; cases e
      rw [if_neg h671] at e
      refine mm_T.guard (y := ((36, [some (.ref 62), some (.int y1), none, some (.int y3), some (.int y4), some (.int y5), none], []), (107, (mm_up I 87 y5.toNatClampNeg ((y4 - y4 / 3 * 3) - 1)), J, mm_rf rv sp rr w nw))) rfl h671 ?_
      refine mm_T.seg (f' := (18, [some (.ref 62), some (.int y1), none, some (.int y3), some (.int (y4 / 3)), some (.int (y5 + (-1))), none], [])) (h' := (107, (mm_up I 87 y5.toNatClampNeg ((y4 - y4 / 3 * 3) - 1)), J, mm_rf rv sp rr w nw)) 6 rfl ?_
      refine mm_T.mask [true, true, false, true, true, true, false] ?_
      exact ih y1 y3 (y4 / 3) (y5 + (-1)) (mm_up I 87 y5.toNatClampNeg ((y4 - y4 / 3 * 3) - 1)) J rv sp rr w nw out e k
set_option maxRecDepth 100000 in
set_option maxHeartbeats 4000000 in
theorem tlX12_goRow_L54 (d : Nat) (Q : Option Value → mm_H → Prop) : ∀ (n : Nat) (y1 : Int32) (y3 : Int32) (y5 : Int32) (y6 : Int32) (I : Nat → Nat → Int32) (J : Nat → Nat → Int64) (rv sp rr w nw : Nat), ∀ (out : Int32 × (Nat → Nat → Int32)), fX12_goRow_L54 n y1 y3 y5 y6 I = some out → mm_T none (d + 4) 279 (97, [none, none, none, none, none, some (.int out.1), none], []) (107, out.2, J, mm_rf rv sp rr w nw) Q → mm_T none (d + 4) 279 (54, [some (.ref 62), some (.int y1), none, some (.int y3), none, some (.int y5), some (.int y6)], []) (107, I, J, mm_rf rv sp rr w nw) Q := by
  intro n
  induction n with
  | zero =>
    intro y1 y3 y5 y6 I J rv sp rr w nw out e k
    rw [fX12_goRow_L54] at e; cases e
  | succ n ih =>
    intro y1 y3 y5 y6 I J rv sp rr w nw out e k
    rw [fX12_goRow_L54] at e
    refine mm_T.seg (f' := (57, [some (.ref 62), some (.int y1), none, some (.int y3), none, some (.int y5), some (.int y6)], [(.int y3), (.int y6)])) (h' := (107, I, J, mm_rf rv sp rr w nw)) 2 rfl ?_
    refine mm_T.br (c := y6 < y3) (a := ((60, [some (.ref 62), some (.int y1), none, some (.int y3), none, some (.int y5), some (.int y6)], []), (107, I, J, mm_rf rv sp rr w nw))) (b := ((97, [some (.ref 62), some (.int y1), none, some (.int y3), none, some (.int y5), some (.int y6)], []), (107, I, J, mm_rf rv sp rr w nw))) rfl (fun h673 => ?_) (fun h673 => ?_)
    · rw [if_pos h673] at e
      refine mm_T.seg (f' := (62, [some (.ref 62), some (.int y1), none, some (.int y3), none, some (.int y5), some (.int y6)], [(.int y5)])) (h' := (107, I, J, mm_rf rv sp rr w nw)) 1 rfl ?_
      refine mm_T.br (c := y5 = 0) (a := ((97, [some (.ref 62), some (.int y1), none, some (.int y3), none, some (.int y5), some (.int y6)], []), (107, I, J, mm_rf rv sp rr w nw))) (b := ((65, [some (.ref 62), some (.int y1), none, some (.int y3), none, some (.int y5), some (.int y6)], []), (107, I, J, mm_rf rv sp rr w nw))) rfl (fun h674 => ?_) (fun h674 => ?_)
      · rw [if_pos h674] at e
        cases e
        refine mm_T.mask [false, false, false, false, false, true, false] ?_
        exact k
      · rw [if_neg h674] at e
        refine mm_T.seg (f' := (71, [some (.ref 62), some (.int y1), none, some (.int y3), none, some (.int y5), some (.int y6)], [(.ref 87), (.int y1), (.ref 62)])) (h' := (107, I, J, mm_rf rv sp rr w nw)) 4 rfl ?_
        refine mm_T.seg (f' := (73, [some (.ref 62), some (.int y1), none, some (.int y3), none, some (.int y5), some (.int y6)], [(.int y6), (.ref 87), (.int y1), (.ref 62)])) (h' := (107, I, J, mm_rf rv sp rr w nw)) 1 rfl ?_
        by_cases h675 : y6 < 0 ∨ 6 ≤ y6.toNatClampNeg
        · rw [if_pos h675] at e; cases e
        rw [if_neg h675] at e
        refine mm_T.guard (y := ((74, [some (.ref 62), some (.int y1), none, some (.int y3), none, some (.int y5), some (.int y6)], [(.int (I 87 y6.toNatClampNeg)), (.int y1), (.ref 62)]), (107, I, J, mm_rf rv sp rr w nw))) rfl h675 ?_
        refine mm_T.seg (f' := (76, [some (.ref 62), some (.int y1), none, some (.int y3), none, some (.int y5), some (.int y6)], [(.int 1), (.int 1), (.int (I 87 y6.toNatClampNeg)), (.int y1), (.ref 62)])) (h' := (107, I, J, mm_rf rv sp rr w nw)) 2 rfl ?_
        obtain ⟨o676, eo676, e⟩ := mm_bind e
        refine mm_T.call (t := 261) (as := [(.ref 62), (.int y1), (.int (I 87 y6.toNatClampNeg)), (.int 1), (.int 1)]) (f' := (79, [some (.ref 62), some (.int y1), none, some (.int y3), none, some (.int y5), some (.int y6)], [])) rfl (tX12_goStroke (d + 0) n y1 (I 87 y6.toNatClampNeg) 1 1 I J rv sp rr w nw o676 eo676) (fun v h hq => ?_)
        obtain ⟨rfl, rfl⟩ := hq
        refine mm_T.seg (f' := (81, [some (.ref 62), some (.int y1), none, some (.int y3), none, some (.int y5), some (.int y6)], [(.int (o676.1 - o676.1 / 2 * 2))])) (h' := (107, o676.2, J, mm_rf rv sp rr w nw)) 2 rfl ?_
        refine mm_T.br (c := (o676.1 - o676.1 / 2 * 2) = 0) (a := ((84, [some (.ref 62), some (.int y1), none, some (.int y3), none, some (.int y5), some (.int y6)], []), (107, o676.2, J, mm_rf rv sp rr w nw))) (b := ((88, [some (.ref 62), some (.int y1), none, some (.int y3), none, some (.int y5), some (.int y6)], []), (107, o676.2, J, mm_rf rv sp rr w nw))) rfl (fun h677 => ?_) (fun h677 => ?_)
        · rw [if_pos h677] at e
          refine mm_T.seg (f' := (54, [some (.ref 62), some (.int y1), none, some (.int y3), none, some (.int 1), some (.int (y6 + 1))], [])) (h' := (107, o676.2, J, mm_rf rv sp rr w nw)) 5 rfl ?_
          refine mm_T.mask [true, true, false, true, false, true, true] ?_
          exact ih y1 y3 1 (y6 + 1) o676.2 J rv sp rr w nw out e k
        · rw [if_neg h677] at e
          refine mm_T.seg (f' := (54, [some (.ref 62), some (.int y1), none, some (.int y3), none, some (.int 0), some (.int (y6 + 1))], [])) (h' := (107, o676.2, J, mm_rf rv sp rr w nw)) 4 rfl ?_
          refine mm_T.mask [true, true, false, true, false, true, true] ?_
          exact ih y1 y3 0 (y6 + 1) o676.2 J rv sp rr w nw out e k
    · rw [if_neg h673] at e
      cases e
      refine mm_T.mask [false, false, false, false, false, true, false] ?_
      exact k
set_option maxRecDepth 100000 in
set_option maxHeartbeats 4000000 in
theorem tX12_goRow (d n : Nat) (x1 : Int32) (x2 : Int32) (I : Nat → Nat → Int32) (J : Nat → Nat → Int64) (rv sp rr w nw : Nat) (out : Int32 × (Nat → Nat → Int32)) (e : fX12_goRow n x1 x2 I = some out) : mm_T none (d + 4) 279 (mm_ent 279 [(.ref 62), (.int x1), (.int x2)]) (107, I, J, mm_rf rv sp rr w nw) (fun v h => v = some (.int out.1) ∧ h = (107, out.2, J, mm_rf rv sp rr w nw)) := by
  unfold fX12_goRow at e
  refine mm_T.seg (f' := (1, [some (.ref 62), some (.int x1), some (.int x2), none, none, none, none], [(.ref 62)])) (h' := (107, I, J, mm_rf rv sp rr w nw)) 1 rfl ?_
  obtain ⟨o668, eo668, e⟩ := mm_bind e
  refine mm_T.call (t := 256) (as := [(.ref 62)]) (f' := (4, [some (.ref 62), some (.int x1), some (.int x2), none, none, none, none], [])) rfl (tX12_fill (d + 3) n I J rv sp rr w nw o668 eo668) (fun v h hq => ?_)
  obtain ⟨rfl, rfl⟩ := hq
  refine mm_T.seg (f' := (6, [some (.ref 62), some (.int x1), some (.int x2), none, none, none, none], [(.int x1), (.ref 62)])) (h' := (107, o668, J, mm_rf rv sp rr w nw)) 2 rfl ?_
  obtain ⟨o669, eo669, e⟩ := mm_bind e
  refine mm_T.call (t := 278) (as := [(.ref 62), (.int x1)]) (f' := (9, [some (.ref 62), some (.int x1), some (.int x2), none, none, none, none], [])) rfl (tX12_leftOf (d + 3) x1 o668 J rv sp rr w nw o669 eo669) (fun v h hq => ?_)
  obtain ⟨rfl, rfl⟩ := hq
  refine mm_T.seg (f' := (18, [some (.ref 62), some (.int x1), some (.int x2), some (.int o669), some (.int x2), some (.int (o669 - 1)), none], [])) (h' := (107, o668, J, mm_rf rv sp rr w nw)) 7 rfl ?_
  refine mm_T.mask [true, true, false, true, true, true, false] ?_
  obtain ⟨o672, eo672, e⟩ := mm_bind e
  refine tlX12_goRow_L18 d _ n x1 o669 x2 (o669 - 1) o668 J rv sp rr w nw o672 eo672 ?_
  refine mm_T.seg (f' := (54, [some (.ref 62), some (.int x1), none, some (.int o669), none, some (.int 1), some (.int 0)], [])) (h' := (107, o672, J, mm_rf rv sp rr w nw)) 4 rfl ?_
  refine mm_T.mask [true, true, false, true, false, true, true] ?_
  obtain ⟨o678, eo678, e⟩ := mm_bind e
  refine tlX12_goRow_L54 d _ n x1 o669 1 0 o672 J rv sp rr w nw o678 eo678 ?_
  refine mm_T.seg (f' := (99, [none, none, none, none, none, some (.int o678.1), none], [(.int o678.1)])) (h' := (107, o678.2, J, mm_rf rv sp rr w nw)) 1 rfl ?_
  by_cases h679 : o678.1 = 0 ∨ o678.1 = 1
  case neg => rw [if_neg h679] at e; cases e
  rw [if_pos h679] at e
  cases e
  first | exact mm_T.retZ (v := some (.int o678.1)) rfl h679 ⟨rfl, rfl⟩ | exact mm_T.retZ (v := some (.int out)) rfl h679 ⟨rfl, rfl⟩
set_option maxRecDepth 100000 in
set_option maxHeartbeats 4000000 in
theorem tlX12_putSteers_L11 (d : Nat) (Q : Option Value → mm_H → Prop) : ∀ (n : Nat) (y2 : Int32) (I : Nat → Nat → Int32) (J : Nat → Nat → Int64) (rv sp rr w nw : Nat), ∀ (out : (Nat → Nat → Int32)), fX12_putSteers_L11 n y2 I = some out → mm_T none (d + 1) 280 (37, [none, none, none], []) (107, out, J, mm_rf rv sp rr w nw) Q → mm_T none (d + 1) 280 (11, [some (.ref 62), none, some (.int y2)], []) (107, I, J, mm_rf rv sp rr w nw) Q := by
  intro n
  induction n with
  | zero =>
    intro y2 I J rv sp rr w nw out e k
    rw [fX12_putSteers_L11] at e; cases e
  | succ n ih =>
    intro y2 I J rv sp rr w nw out e k
    rw [fX12_putSteers_L11] at e
    refine mm_T.seg (f' := (16, [some (.ref 62), none, some (.int y2)], [(.int (I 62 61)), (.int y2)])) (h' := (107, I, J, mm_rf rv sp rr w nw)) 3 rfl ?_
    refine mm_T.br (c := y2 < (I 62 61)) (a := ((19, [some (.ref 62), none, some (.int y2)], []), (107, I, J, mm_rf rv sp rr w nw))) (b := ((37, [some (.ref 62), none, some (.int y2)], []), (107, I, J, mm_rf rv sp rr w nw))) rfl (fun h681 => ?_) (fun h681 => ?_)
    · rw [if_pos h681] at e
      refine mm_T.seg (f' := (23, [some (.ref 62), none, some (.int y2)], [(.ref 88)])) (h' := (107, I, J, mm_rf rv sp rr w nw)) 2 rfl ?_
      refine mm_T.seg (f' := (28, [some (.ref 62), none, some (.int y2)], [(.ref 87), (.int y2), (.ref 88)])) (h' := (107, I, J, mm_rf rv sp rr w nw)) 3 rfl ?_
      refine mm_T.seg (f' := (29, [some (.ref 62), none, some (.int y2)], [(.int y2), (.ref 87), (.int y2), (.ref 88)])) (h' := (107, I, J, mm_rf rv sp rr w nw)) 1 rfl ?_
      by_cases h682 : y2 < 0 ∨ 6 ≤ y2.toNatClampNeg
      · rw [if_pos h682] at e; cases e
      rw [if_neg h682] at e
      refine mm_T.guard (y := ((30, [some (.ref 62), none, some (.int y2)], [(.int (I 87 y2.toNatClampNeg)), (.int y2), (.ref 88)]), (107, I, J, mm_rf rv sp rr w nw))) rfl h682 ?_
      by_cases h683 : y2 < 0 ∨ 7 ≤ y2.toNatClampNeg
      · rw [if_pos h683] at e; cases e
      rw [if_neg h683] at e
      refine mm_T.guard (y := ((31, [some (.ref 62), none, some (.int y2)], []), (107, (mm_up I 88 y2.toNatClampNeg (I 87 y2.toNatClampNeg)), J, mm_rf rv sp rr w nw))) rfl h683 ?_
      refine mm_T.seg (f' := (11, [some (.ref 62), none, some (.int (y2 + 1))], [])) (h' := (107, (mm_up I 88 y2.toNatClampNeg (I 87 y2.toNatClampNeg)), J, mm_rf rv sp rr w nw)) 2 rfl ?_
      refine mm_T.mask [true, false, true] ?_
      exact ih (y2 + 1) (mm_up I 88 y2.toNatClampNeg (I 87 y2.toNatClampNeg)) J rv sp rr w nw out e k
    · rw [if_neg h681] at e
      cases e
      refine mm_T.mask [false, false, false] ?_
      exact k
set_option maxRecDepth 100000 in
set_option maxHeartbeats 4000000 in
theorem tX12_putSteers (d n : Nat) (x1 : Int32) (I : Nat → Nat → Int32) (J : Nat → Nat → Int64) (rv sp rr w nw : Nat) (out : (Nat → Nat → Int32)) (e : fX12_putSteers n x1 I = some out) : mm_T none (d + 1) 280 (mm_ent 280 [(.ref 62), (.int x1)]) (107, I, J, mm_rf rv sp rr w nw) (fun v h => v = none ∧ h = (107, out, J, mm_rf rv sp rr w nw)) := by
  unfold fX12_putSteers at e
  refine mm_T.seg (f' := (3, [some (.ref 62), some (.int x1), none], [(.int x1), (.ref 62), (.ref 62)])) (h' := (107, I, J, mm_rf rv sp rr w nw)) 3 rfl ?_
  obtain ⟨o680, eo680, e⟩ := mm_bind e
  refine mm_T.call (t := 278) (as := [(.ref 62), (.int x1)]) (f' := (6, [some (.ref 62), some (.int x1), none], [(.ref 62)])) rfl (tX12_leftOf (d + 0) x1 I J rv sp rr w nw o680 eo680) (fun v h hq => ?_)
  obtain ⟨rfl, rfl⟩ := hq
  refine mm_T.seg (f' := (11, [some (.ref 62), some (.int x1), some (.int 0)], [])) (h' := (107, (mm_up I 62 61 o680), J, mm_rf rv sp rr w nw)) 3 rfl ?_
  refine mm_T.mask [true, false, true] ?_
  obtain ⟨o684, eo684, e⟩ := mm_bind e
  refine tlX12_putSteers_L11 d _ n 0 (mm_up I 62 61 o680) J rv sp rr w nw o684 eo684 ?_
  cases e
  exact mm_T.ret rfl ⟨rfl, rfl⟩
set_option maxRecDepth 100000 in
set_option maxHeartbeats 4000000 in
theorem tlX12_landingsOf_L4 (d : Nat) (Q : Option Value → mm_H → Prop) : ∀ (n : Nat) (y1 : Int32) (y2 : Int32) (y3 : Int32) (I : Nat → Nat → Int32) (J : Nat → Nat → Int64) (rv sp rr w nw : Nat), ∀ (out : Int32 × (Nat → Nat → Int32)), fX12_landingsOf_L4 n y1 y2 y3 I = some out → mm_T none (d + 5) 281 (43, [none, none, some (.int out.1), none], []) (107, out.2, J, mm_rf rv sp rr w nw) Q → mm_T none (d + 5) 281 (4, [some (.ref 62), some (.int y1), some (.int y2), some (.int y3)], []) (107, I, J, mm_rf rv sp rr w nw) Q := by
  intro n
  induction n with
  | zero =>
    intro y1 y2 y3 I J rv sp rr w nw out e k
    rw [fX12_landingsOf_L4] at e; cases e
  | succ n ih =>
    intro y1 y2 y3 I J rv sp rr w nw out e k
    rw [fX12_landingsOf_L4] at e
    refine mm_T.seg (f' := (8, [some (.ref 62), some (.int y1), some (.int y2), some (.int y3)], [(.int y1), (.ref 62), (.int 3), (.int y3)])) (h' := (107, I, J, mm_rf rv sp rr w nw)) 4 rfl ?_
    obtain ⟨o685, eo685, e⟩ := mm_bind e
    refine mm_T.call (t := 278) (as := [(.ref 62), (.int y1)]) (f' := (11, [some (.ref 62), some (.int y1), some (.int y2), some (.int y3)], [(.int 3), (.int y3)])) rfl (tX12_leftOf (d + 4) y1 I J rv sp rr w nw o685 eo685) (fun v h hq => ?_)
    obtain ⟨rfl, rfl⟩ := hq
    obtain ⟨o686, eo686, e⟩ := mm_bind e
    refine mm_T.call (t := 277) (as := [(.int 3), (.int o685)]) (f' := (14, [some (.ref 62), some (.int y1), some (.int y2), some (.int y3)], [(.int y3)])) rfl (tX12_power (d + 4) n 3 o685 I J rv sp rr w nw o686 eo686) (fun v h hq => ?_)
    obtain ⟨rfl, rfl⟩ := hq
    refine mm_T.br (c := y3 < o686) (a := ((17, [some (.ref 62), some (.int y1), some (.int y2), some (.int y3)], []), (107, I, J, mm_rf rv sp rr w nw))) (b := ((43, [some (.ref 62), some (.int y1), some (.int y2), some (.int y3)], []), (107, I, J, mm_rf rv sp rr w nw))) rfl (fun h687 => ?_) (fun h687 => ?_)
    · rw [if_pos h687] at e
      refine mm_T.seg (f' := (20, [some (.ref 62), some (.int y1), some (.int y2), some (.int y3)], [(.int y3), (.int y1), (.ref 62)])) (h' := (107, I, J, mm_rf rv sp rr w nw)) 3 rfl ?_
      obtain ⟨o688, eo688, e⟩ := mm_bind e
      refine mm_T.call (t := 279) (as := [(.ref 62), (.int y1), (.int y3)]) (f' := (23, [some (.ref 62), some (.int y1), some (.int y2), some (.int y3)], [])) rfl (tX12_goRow (d + 0) n y1 y3 I J rv sp rr w nw o688 eo688) (fun v h hq => ?_)
      obtain ⟨rfl, rfl⟩ := hq
      refine mm_T.br (c := o688.1 = 0) (a := ((37, [some (.ref 62), some (.int y1), some (.int y2), some (.int y3)], []), (107, o688.2, J, mm_rf rv sp rr w nw))) (b := ((26, [some (.ref 62), some (.int y1), some (.int y2), some (.int y3)], []), (107, o688.2, J, mm_rf rv sp rr w nw))) rfl (fun h689 => ?_) (fun h689 => ?_)
      · rw [if_pos h689] at e
        refine mm_T.seg (f' := (4, [some (.ref 62), some (.int y1), some (.int y2), some (.int (y3 + 1))], [])) (h' := (107, o688.2, J, mm_rf rv sp rr w nw)) 2 rfl ?_
        refine mm_T.mask [true, true, true, true] ?_
        exact ih y1 y2 (y3 + 1) o688.2 J rv sp rr w nw out e k
      · rw [if_neg h689] at e
        refine mm_T.seg (f' := (32, [some (.ref 62), some (.int y1), some (.int y2), some (.int y3)], [(.ref 85), (.int 1), (.int y2)])) (h' := (107, o688.2, J, mm_rf rv sp rr w nw)) 4 rfl ?_
        refine mm_T.seg (f' := (33, [some (.ref 62), some (.int y1), some (.int y2), some (.int y3)], [(.int y1), (.ref 85), (.int 1), (.int y2)])) (h' := (107, o688.2, J, mm_rf rv sp rr w nw)) 1 rfl ?_
        by_cases h690 : y1 < 0 ∨ 28 ≤ y1.toNatClampNeg
        · rw [if_pos h690] at e; cases e
        rw [if_neg h690] at e
        refine mm_T.guard (y := ((34, [some (.ref 62), some (.int y1), some (.int y2), some (.int y3)], [(.int (o688.2 85 y1.toNatClampNeg)), (.int 1), (.int y2)]), (107, o688.2, J, mm_rf rv sp rr w nw))) rfl h690 ?_
        refine mm_T.seg (f' := (4, [some (.ref 62), some (.int y1), some (.int (y2 ||| ((1 : Int32) <<< ((o688.2 85 y1.toNatClampNeg) &&& 31)))), some (.int (y3 + 1))], [])) (h' := (107, o688.2, J, mm_rf rv sp rr w nw)) 5 rfl ?_
        refine mm_T.mask [true, true, true, true] ?_
        exact ih y1 (y2 ||| ((1 : Int32) <<< ((o688.2 85 y1.toNatClampNeg) &&& 31))) (y3 + 1) o688.2 J rv sp rr w nw out e k
    · rw [if_neg h687] at e
      cases e
      refine mm_T.mask [false, false, true, false] ?_
      exact k
set_option maxRecDepth 100000 in
set_option maxHeartbeats 4000000 in
theorem tX12_landingsOf (d n : Nat) (x1 : Int32) (I : Nat → Nat → Int32) (J : Nat → Nat → Int64) (rv sp rr w nw : Nat) (out : Int32 × (Nat → Nat → Int32)) (e : fX12_landingsOf n x1 I = some out) : mm_T none (d + 5) 281 (mm_ent 281 [(.ref 62), (.int x1)]) (107, I, J, mm_rf rv sp rr w nw) (fun v h => v = some (.int out.1) ∧ h = (107, out.2, J, mm_rf rv sp rr w nw)) := by
  unfold fX12_landingsOf at e
  refine mm_T.seg (f' := (4, [some (.ref 62), some (.int x1), some (.int 0), some (.int 0)], [])) (h' := (107, I, J, mm_rf rv sp rr w nw)) 4 rfl ?_
  refine mm_T.mask [true, true, true, true] ?_
  obtain ⟨o691, eo691, e⟩ := mm_bind e
  refine tlX12_landingsOf_L4 d _ n x1 0 0 I J rv sp rr w nw o691 eo691 ?_
  refine mm_T.seg (f' := (44, [none, none, some (.int o691.1), none], [(.int o691.1)])) (h' := (107, o691.2, J, mm_rf rv sp rr w nw)) 1 rfl ?_
  cases e
  exact mm_T.ret rfl ⟨rfl, rfl⟩
set_option maxRecDepth 100000 in
set_option maxHeartbeats 4000000 in
theorem tX12_landings (d n : Nat) (x1 : Int32) (I : Nat → Nat → Int32) (J : Nat → Nat → Int64) (rv sp rr w nw : Nat) (out : Int32 × (Nat → Nat → Int32)) (e : fX12_landings n x1 I = some out) : mm_T none (d + 6) 282 (mm_ent 282 [(.ref 62), (.int x1)]) (107, I, J, mm_rf rv sp rr w nw) (fun v h => v = some (.int out.1) ∧ h = (107, out.2, J, mm_rf rv sp rr w nw)) := by
  unfold fX12_landings at e
  refine mm_T.seg (f' := (2, [some (.ref 62), some (.int x1)], [(.int x1), (.ref 62)])) (h' := (107, I, J, mm_rf rv sp rr w nw)) 2 rfl ?_
  obtain ⟨o692, eo692, e⟩ := mm_bind e
  refine mm_T.call (t := 253) (as := [(.ref 62), (.int x1)]) (f' := (5, [some (.ref 62), some (.int x1)], [])) rfl (tX12_isBoard (d + 4) x1 I J rv sp rr w nw o692 eo692) (fun v h hq => ?_)
  obtain ⟨rfl, rfl⟩ := hq
  refine mm_T.br (c := o692 = 0) (a := ((16, [some (.ref 62), some (.int x1)], []), (107, I, J, mm_rf rv sp rr w nw))) (b := ((8, [some (.ref 62), some (.int x1)], []), (107, I, J, mm_rf rv sp rr w nw))) rfl (fun h693 => ?_) (fun h693 => ?_)
  · rw [if_pos h693] at e
    refine mm_T.seg (f' := (17, [some (.ref 62), some (.int x1)], [(.int (-1))])) (h' := (107, I, J, mm_rf rv sp rr w nw)) 1 rfl ?_
    cases e
    exact mm_T.ret rfl ⟨rfl, rfl⟩
  · rw [if_neg h693] at e
    refine mm_T.seg (f' := (10, [some (.ref 62), some (.int x1)], [(.int x1), (.ref 62)])) (h' := (107, I, J, mm_rf rv sp rr w nw)) 2 rfl ?_
    obtain ⟨o694, eo694, e⟩ := mm_bind e
    refine mm_T.call (t := 281) (as := [(.ref 62), (.int x1)]) (f' := (13, [some (.ref 62), some (.int x1)], [])) rfl (tX12_landingsOf (d + 0) n x1 I J rv sp rr w nw o694 eo694) (fun v h hq => ?_)
    obtain ⟨rfl, rfl⟩ := hq
    refine mm_T.seg (f' := (17, [some (.ref 62), some (.int x1)], [(.int o694.1)])) (h' := (107, o694.2, J, mm_rf rv sp rr w nw)) 1 rfl ?_
    cases e
    exact mm_T.ret rfl ⟨rfl, rfl⟩
set_option maxRecDepth 100000 in
set_option maxHeartbeats 4000000 in
theorem tlX12_rows_L14 (d : Nat) (Q : Option Value → mm_H → Prop) : ∀ (n : Nat) (y1 : Int32) (y2 : Int32) (y3 : Int32) (I : Nat → Nat → Int32) (J : Nat → Nat → Int64) (rv sp rr w nw : Nat), ∀ (out : Int32 × (Nat → Nat → Int32)), fX12_rows_L14 n y1 y2 y3 I = some out → mm_T none (d + 5) 283 (45, [none, none, some (.int out.1), none], []) (107, out.2, J, mm_rf rv sp rr w nw) Q → mm_T none (d + 5) 283 (14, [some (.ref 62), some (.int y1), some (.int y2), some (.int y3)], []) (107, I, J, mm_rf rv sp rr w nw) Q := by
  intro n
  induction n with
  | zero =>
    intro y1 y2 y3 I J rv sp rr w nw out e k
    rw [fX12_rows_L14] at e; cases e
  | succ n ih =>
    intro y1 y2 y3 I J rv sp rr w nw out e k
    rw [fX12_rows_L14] at e
    refine mm_T.seg (f' := (18, [some (.ref 62), some (.int y1), some (.int y2), some (.int y3)], [(.int y1), (.ref 62), (.int 3), (.int y3)])) (h' := (107, I, J, mm_rf rv sp rr w nw)) 4 rfl ?_
    obtain ⟨o697, eo697, e⟩ := mm_bind e
    refine mm_T.call (t := 278) (as := [(.ref 62), (.int y1)]) (f' := (21, [some (.ref 62), some (.int y1), some (.int y2), some (.int y3)], [(.int 3), (.int y3)])) rfl (tX12_leftOf (d + 4) y1 I J rv sp rr w nw o697 eo697) (fun v h hq => ?_)
    obtain ⟨rfl, rfl⟩ := hq
    obtain ⟨o698, eo698, e⟩ := mm_bind e
    refine mm_T.call (t := 277) (as := [(.int 3), (.int o697)]) (f' := (24, [some (.ref 62), some (.int y1), some (.int y2), some (.int y3)], [(.int y3)])) rfl (tX12_power (d + 4) n 3 o697 I J rv sp rr w nw o698 eo698) (fun v h hq => ?_)
    obtain ⟨rfl, rfl⟩ := hq
    refine mm_T.br (c := y3 < o698) (a := ((27, [some (.ref 62), some (.int y1), some (.int y2), some (.int y3)], []), (107, I, J, mm_rf rv sp rr w nw))) (b := ((45, [some (.ref 62), some (.int y1), some (.int y2), some (.int y3)], []), (107, I, J, mm_rf rv sp rr w nw))) rfl (fun h699 => ?_) (fun h699 => ?_)
    · rw [if_pos h699] at e
      refine mm_T.seg (f' := (31, [some (.ref 62), some (.int y1), some (.int y2), some (.int y3)], [(.int y3), (.int y1), (.ref 62), (.int y2)])) (h' := (107, I, J, mm_rf rv sp rr w nw)) 4 rfl ?_
      obtain ⟨o700, eo700, e⟩ := mm_bind e
      refine mm_T.call (t := 279) (as := [(.ref 62), (.int y1), (.int y3)]) (f' := (34, [some (.ref 62), some (.int y1), some (.int y2), some (.int y3)], [(.int y2)])) rfl (tX12_goRow (d + 0) n y1 y3 I J rv sp rr w nw o700 eo700) (fun v h hq => ?_)
      obtain ⟨rfl, rfl⟩ := hq
      obtain ⟨g137, hg137⟩ : ∃ z, fX12_truth o700.1 = z := ⟨_, rfl⟩
      try rw [hg137] at e
      refine mm_T.call (t := 236) (as := [(.int o700.1)]) (f' := (37, [some (.ref 62), some (.int y1), some (.int y2), some (.int y3)], [(.int y2)])) rfl (tX12_truth (d + 4) o700.1 o700.2 J rv sp rr w nw g137 hg137) (fun v h hq => ?_)
      obtain ⟨rfl, rfl⟩ := hq
      refine mm_T.seg (f' := (14, [some (.ref 62), some (.int y1), some (.int (y2 + g137)), some (.int (y3 + 1))], [])) (h' := (107, o700.2, J, mm_rf rv sp rr w nw)) 4 rfl ?_
      refine mm_T.mask [true, true, true, true] ?_
      exact ih y1 (y2 + g137) (y3 + 1) o700.2 J rv sp rr w nw out e k
    · rw [if_neg h699] at e
      cases e
      refine mm_T.mask [false, false, true, false] ?_
      exact k
set_option maxRecDepth 100000 in
set_option maxHeartbeats 4000000 in
theorem tX12_rows (d n : Nat) (x1 : Int32) (I : Nat → Nat → Int32) (J : Nat → Nat → Int64) (rv sp rr w nw : Nat) (out : Int32 × (Nat → Nat → Int32)) (e : fX12_rows n x1 I = some out) : mm_T none (d + 5) 283 (mm_ent 283 [(.ref 62), (.int x1)]) (107, I, J, mm_rf rv sp rr w nw) (fun v h => v = some (.int out.1) ∧ h = (107, out.2, J, mm_rf rv sp rr w nw)) := by
  unfold fX12_rows at e
  refine mm_T.seg (f' := (2, [some (.ref 62), some (.int x1), none, none], [(.int x1), (.ref 62)])) (h' := (107, I, J, mm_rf rv sp rr w nw)) 2 rfl ?_
  obtain ⟨o695, eo695, e⟩ := mm_bind e
  refine mm_T.call (t := 253) (as := [(.ref 62), (.int x1)]) (f' := (5, [some (.ref 62), some (.int x1), none, none], [])) rfl (tX12_isBoard (d + 3) x1 I J rv sp rr w nw o695 eo695) (fun v h hq => ?_)
  obtain ⟨rfl, rfl⟩ := hq
  refine mm_T.br (c := o695 = 0) (a := ((8, [some (.ref 62), some (.int x1), none, none], []), (107, I, J, mm_rf rv sp rr w nw))) (b := ((10, [some (.ref 62), some (.int x1), none, none], []), (107, I, J, mm_rf rv sp rr w nw))) rfl (fun h696 => ?_) (fun h696 => ?_)
  · rw [if_pos h696] at e
    refine mm_T.seg (f' := (9, [some (.ref 62), some (.int x1), none, none], [(.int (-1))])) (h' := (107, I, J, mm_rf rv sp rr w nw)) 1 rfl ?_
    cases e
    exact mm_T.ret rfl ⟨rfl, rfl⟩
  · rw [if_neg h696] at e
    refine mm_T.seg (f' := (14, [some (.ref 62), some (.int x1), some (.int 0), some (.int 0)], [])) (h' := (107, I, J, mm_rf rv sp rr w nw)) 4 rfl ?_
    refine mm_T.mask [true, true, true, true] ?_
    obtain ⟨o701, eo701, e⟩ := mm_bind e
    refine tlX12_rows_L14 d _ n x1 0 0 I J rv sp rr w nw o701 eo701 ?_
    refine mm_T.seg (f' := (46, [none, none, some (.int o701.1), none], [(.int o701.1)])) (h' := (107, o701.2, J, mm_rf rv sp rr w nw)) 1 rfl ?_
    cases e
    exact mm_T.ret rfl ⟨rfl, rfl⟩
set_option maxRecDepth 100000 in
set_option maxHeartbeats 4000000 in
theorem tX12_unsteered (d n : Nat) (x1 : Int32) (I : Nat → Nat → Int32) (J : Nat → Nat → Int64) (rv sp rr w nw : Nat) (out : Int32) (e : fX12_unsteered n x1 I = some out) : mm_T none (d + 1) 284 (mm_ent 284 [(.ref 62), (.int x1)]) (107, I, J, mm_rf rv sp rr w nw) (fun v h => v = some (.int out) ∧ h = (107, I, J, mm_rf rv sp rr w nw)) := by
  unfold fX12_unsteered at e
  refine mm_T.seg (f' := (3, [some (.ref 62), some (.int x1)], [(.int x1), (.ref 62), (.int 3)])) (h' := (107, I, J, mm_rf rv sp rr w nw)) 3 rfl ?_
  obtain ⟨o702, eo702, e⟩ := mm_bind e
  refine mm_T.call (t := 278) (as := [(.ref 62), (.int x1)]) (f' := (6, [some (.ref 62), some (.int x1)], [(.int 3)])) rfl (tX12_leftOf (d + 0) x1 I J rv sp rr w nw o702 eo702) (fun v h hq => ?_)
  obtain ⟨rfl, rfl⟩ := hq
  obtain ⟨o703, eo703, e⟩ := mm_bind e
  refine mm_T.call (t := 277) (as := [(.int 3), (.int o702)]) (f' := (9, [some (.ref 62), some (.int x1)], [])) rfl (tX12_power (d + 0) n 3 o702 I J rv sp rr w nw o703 eo703) (fun v h hq => ?_)
  obtain ⟨rfl, rfl⟩ := hq
  refine mm_T.seg (f' := (13, [some (.ref 62), some (.int x1)], [(.int ((o703 - 1) / 2))])) (h' := (107, I, J, mm_rf rv sp rr w nw)) 4 rfl ?_
  cases e
  exact mm_T.ret rfl ⟨rfl, rfl⟩
set_option maxRecDepth 100000 in
set_option maxHeartbeats 4000000 in
theorem tX12_drift (d n : Nat) (x1 : Int32) (I : Nat → Nat → Int32) (J : Nat → Nat → Int64) (rv sp rr w nw : Nat) (out : Int32 × (Nat → Nat → Int32)) (e : fX12_drift n x1 I = some out) : mm_T none (d + 5) 285 (mm_ent 285 [(.ref 62), (.int x1)]) (107, I, J, mm_rf rv sp rr w nw) (fun v h => v = some (.int out.1) ∧ h = (107, out.2, J, mm_rf rv sp rr w nw)) := by
  unfold fX12_drift at e
  refine mm_T.seg (f' := (2, [some (.ref 62), some (.int x1)], [(.int x1), (.ref 62)])) (h' := (107, I, J, mm_rf rv sp rr w nw)) 2 rfl ?_
  obtain ⟨o704, eo704, e⟩ := mm_bind e
  refine mm_T.call (t := 253) (as := [(.ref 62), (.int x1)]) (f' := (5, [some (.ref 62), some (.int x1)], [])) rfl (tX12_isBoard (d + 3) x1 I J rv sp rr w nw o704 eo704) (fun v h hq => ?_)
  obtain ⟨rfl, rfl⟩ := hq
  refine mm_T.br (c := o704 = 0) (a := ((30, [some (.ref 62), some (.int x1)], []), (107, I, J, mm_rf rv sp rr w nw))) (b := ((8, [some (.ref 62), some (.int x1)], []), (107, I, J, mm_rf rv sp rr w nw))) rfl (fun h705 => ?_) (fun h705 => ?_)
  · rw [if_pos h705] at e
    refine mm_T.seg (f' := (31, [some (.ref 62), some (.int x1)], [(.int (-1))])) (h' := (107, I, J, mm_rf rv sp rr w nw)) 1 rfl ?_
    cases e
    exact mm_T.ret rfl ⟨rfl, rfl⟩
  · rw [if_neg h705] at e
    refine mm_T.seg (f' := (12, [some (.ref 62), some (.int x1)], [(.int x1), (.ref 62), (.int x1), (.ref 62)])) (h' := (107, I, J, mm_rf rv sp rr w nw)) 4 rfl ?_
    obtain ⟨o706, eo706, e⟩ := mm_bind e
    refine mm_T.call (t := 284) (as := [(.ref 62), (.int x1)]) (f' := (15, [some (.ref 62), some (.int x1)], [(.int x1), (.ref 62)])) rfl (tX12_unsteered (d + 3) n x1 I J rv sp rr w nw o706 eo706) (fun v h hq => ?_)
    obtain ⟨rfl, rfl⟩ := hq
    obtain ⟨o707, eo707, e⟩ := mm_bind e
    refine mm_T.call (t := 279) (as := [(.ref 62), (.int x1), (.int o706)]) (f' := (18, [some (.ref 62), some (.int x1)], [])) rfl (tX12_goRow (d + 0) n x1 o706 I J rv sp rr w nw o707 eo707) (fun v h hq => ?_)
    obtain ⟨rfl, rfl⟩ := hq
    refine mm_T.br (c := o707.1 = 0) (a := ((30, [some (.ref 62), some (.int x1)], []), (107, o707.2, J, mm_rf rv sp rr w nw))) (b := ((21, [some (.ref 62), some (.int x1)], []), (107, o707.2, J, mm_rf rv sp rr w nw))) rfl (fun h708 => ?_) (fun h708 => ?_)
    · rw [if_pos h708] at e
      refine mm_T.seg (f' := (31, [some (.ref 62), some (.int x1)], [(.int (-1))])) (h' := (107, o707.2, J, mm_rf rv sp rr w nw)) 1 rfl ?_
      cases e
      exact mm_T.ret rfl ⟨rfl, rfl⟩
    · rw [if_neg h708] at e
      refine mm_T.seg (f' := (25, [some (.ref 62), some (.int x1)], [(.ref 85)])) (h' := (107, o707.2, J, mm_rf rv sp rr w nw)) 2 rfl ?_
      refine mm_T.seg (f' := (26, [some (.ref 62), some (.int x1)], [(.int x1), (.ref 85)])) (h' := (107, o707.2, J, mm_rf rv sp rr w nw)) 1 rfl ?_
      by_cases h709 : x1 < 0 ∨ 28 ≤ x1.toNatClampNeg
      · rw [if_pos h709] at e; cases e
      rw [if_neg h709] at e
      refine mm_T.guard (y := ((27, [some (.ref 62), some (.int x1)], [(.int (o707.2 85 x1.toNatClampNeg))]), (107, o707.2, J, mm_rf rv sp rr w nw))) rfl h709 ?_
      refine mm_T.seg (f' := (31, [some (.ref 62), some (.int x1)], [(.int (o707.2 85 x1.toNatClampNeg))])) (h' := (107, o707.2, J, mm_rf rv sp rr w nw)) 1 rfl ?_
      cases e
      exact mm_T.ret rfl ⟨rfl, rfl⟩
