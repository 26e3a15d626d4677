set_option maxRecDepth 100000 in
set_option maxHeartbeats 4000000 in
theorem tX12_within (d : Nat) (x0 : Int32) (x1 : Int32) (I : Nat → Nat → Int32) (J : Nat → Nat → Int64) (rv sp rr w nw : Nat) (out : Int32) (e : fX12_within x0 x1 = out) : mm_T none (d + 0) 238 (mm_ent 238 [(.int x0), (.int x1)]) (107, I, J, mm_rf rv sp rr w nw) (fun v h => v = some (.int out) ∧ h = (107, I, J, mm_rf rv sp rr w nw)) := by
  unfold fX12_within at e
  refine mm_T.seg (f' := (1, [some (.int x0), some (.int x1)], [(.int x0)])) (h' := (107, I, J, mm_rf rv sp rr w nw)) 1 rfl ?_
  refine mm_T.br (c := x0 < 0) (a := ((4, [some (.int x0), some (.int x1)], []), (107, I, J, mm_rf rv sp rr w nw))) (b := ((8, [some (.int x0), some (.int x1)], []), (107, I, J, mm_rf rv sp rr w nw))) rfl (fun h325 => ?_) (fun h325 => ?_)
  · rw [if_pos h325] at e
    refine mm_T.seg (f' := (18, [some (.int x0), some (.int x1)], [(.int 0)])) (h' := (107, I, J, mm_rf rv sp rr w nw)) 2 rfl ?_
    cases e
    exact mm_T.ret rfl ⟨rfl, rfl⟩
  · rw [if_neg h325] at e
    refine mm_T.seg (f' := (10, [some (.int x0), some (.int x1)], [(.int x1), (.int x0)])) (h' := (107, I, J, mm_rf rv sp rr w nw)) 2 rfl ?_
    refine mm_T.br (c := x1 < x0) (a := ((13, [some (.int x0), some (.int x1)], []), (107, I, J, mm_rf rv sp rr w nw))) (b := ((17, [some (.int x0), some (.int x1)], []), (107, I, J, mm_rf rv sp rr w nw))) rfl (fun h326 => ?_) (fun h326 => ?_)
    · rw [if_pos h326] at e
      refine mm_T.seg (f' := (18, [some (.int x0), some (.int x1)], [(.int x1)])) (h' := (107, I, J, mm_rf rv sp rr w nw)) 2 rfl ?_
      cases e
      exact mm_T.ret rfl ⟨rfl, rfl⟩
    · rw [if_neg h326] at e
      refine mm_T.seg (f' := (18, [some (.int x0), some (.int x1)], [(.int x0)])) (h' := (107, I, J, mm_rf rv sp rr w nw)) 1 rfl ?_
      cases e
      exact mm_T.ret rfl ⟨rfl, rfl⟩
set_option maxRecDepth 100000 in
set_option maxHeartbeats 4000000 in
theorem tX12_plain (d : Nat) (x0 : Int32) (I : Nat → Nat → Int32) (J : Nat → Nat → Int64) (rv sp rr w nw : Nat) (out : Int32) (e : fX12_plain x0 = out) : mm_T none (d + 0) 239 (mm_ent 239 [(.int x0)]) (107, I, J, mm_rf rv sp rr w nw) (fun v h => v = some (.int out) ∧ h = (107, I, J, mm_rf rv sp rr w nw)) := by
  unfold fX12_plain at e
  refine mm_T.seg (f' := (1, [some (.int x0)], [(.int x0)])) (h' := (107, I, J, mm_rf rv sp rr w nw)) 1 rfl ?_
  refine mm_T.br (c := x0 < 0) (a := ((4, [some (.int x0)], []), (107, I, J, mm_rf rv sp rr w nw))) (b := ((9, [some (.int x0)], []), (107, I, J, mm_rf rv sp rr w nw))) rfl (fun h327 => ?_) (fun h327 => ?_)
  · rw [if_pos h327] at e
    refine mm_T.seg (f' := (10, [some (.int x0)], [(.int (-x0))])) (h' := (107, I, J, mm_rf rv sp rr w nw)) 3 rfl ?_
    cases e
    exact mm_T.ret rfl ⟨rfl, rfl⟩
  · rw [if_neg h327] at e
    refine mm_T.seg (f' := (10, [some (.int x0)], [(.int x0)])) (h' := (107, I, J, mm_rf rv sp rr w nw)) 1 rfl ?_
    cases e
    exact mm_T.ret rfl ⟨rfl, rfl⟩
set_option maxRecDepth 100000 in
set_option maxHeartbeats 4000000 in
theorem tlX12_burdenOf_L4 (d : Nat) (Q : Option Value → mm_H → Prop) : ∀ (n : Nat) (y1 : Int32) (y2 : Int32) (y3 : Int32) (I : Nat → Nat → Int32) (J : Nat → Nat → Int64) (rv sp rr w nw : Nat), ∀ (out : Int32), fX12_burdenOf_L4 n y1 y2 y3 I = some out → mm_T none (d + 0) 240 (44, [none, none, some (.int out), none], []) (107, I, J, mm_rf rv sp rr w nw) Q → mm_T none (d + 0) 240 (4, [some (.ref 62), some (.int y1), some (.int y2), some (.int y3)], []) (107, I, J, mm_rf rv sp rr w nw) Q := by
  intro n
  induction n with
  | zero =>
    intro y1 y2 y3 I J rv sp rr w nw out e k
    rw [fX12_burdenOf_L4] at e; cases e
  | succ n ih =>
    intro y1 y2 y3 I J rv sp rr w nw out e k
    rw [fX12_burdenOf_L4] at e
    refine mm_T.seg (f' := (9, [some (.ref 62), some (.int y1), some (.int y2), some (.int y3)], [(.int (I 62 49)), (.int y3)])) (h' := (107, I, J, mm_rf rv sp rr w nw)) 3 rfl ?_
    refine mm_T.br (c := y3 < (I 62 49)) (a := ((12, [some (.ref 62), some (.int y1), some (.int y2), some (.int y3)], []), (107, I, J, mm_rf rv sp rr w nw))) (b := ((44, [some (.ref 62), some (.int y1), some (.int y2), some (.int y3)], []), (107, I, J, mm_rf rv sp rr w nw))) rfl (fun h332 => ?_) (fun h332 => ?_)
    · rw [if_pos h332] at e
      refine mm_T.seg (f' := (17, [some (.ref 62), some (.int y1), some (.int y2), some (.int y3)], [(.ref 85), (.int y2)])) (h' := (107, I, J, mm_rf rv sp rr w nw)) 3 rfl ?_
      refine mm_T.seg (f' := (21, [some (.ref 62), some (.int y1), some (.int y2), some (.int y3)], [(.int (20 + y3)), (.ref 85), (.int y2)])) (h' := (107, I, J, mm_rf rv sp rr w nw)) 3 rfl ?_
      by_cases h333 : (20 + y3) < 0 ∨ 28 ≤ (20 + y3).toNatClampNeg
      · rw [if_pos h333] at e; cases e
      rw [if_neg h333] at e
      refine mm_T.guard (c := (20 + y3) < 0 ∨ 28 ≤ (20 + y3).toNatClampNeg) (y := ((22, [some (.ref 62), some (.int y1), some (.int y2), some (.int y3)], [(.int (I 85 (20 + y3).toNatClampNeg)), (.int y2)]), (107, I, J, mm_rf rv sp rr w nw))) (mm_gen (P := fun z => mm_stp none 240 (21, [some (.ref 62), some (.int y1), some (.int y2), some (.int y3)], [(.int z), (.ref 85), (.int y2)]) (107, I, J, mm_rf rv sp rr w nw) = if z < 0 ∨ 28 ≤ z.toNatClampNeg then none else some (.inl ((22, [some (.ref 62), some (.int y1), some (.int y2), some (.int y3)], [(.int (I 85 z.toNatClampNeg)), (.int y2)]), (107, I, J, mm_rf rv sp rr w nw)))) (20 + y3) (fun z => rfl)) h333 ?_
      refine mm_T.seg (f' := (23, [some (.ref 62), some (.int y1), some (.int y2), some (.int y3)], [(.int y1), (.int (I 85 (20 + y3).toNatClampNeg)), (.int y2)])) (h' := (107, I, J, mm_rf rv sp rr w nw)) 1 rfl ?_
      refine mm_T.br (c := (I 85 (20 + y3).toNatClampNeg) = y1) (a := ((26, [some (.ref 62), some (.int y1), some (.int y2), some (.int y3)], [(.int y2)]), (107, I, J, mm_rf rv sp rr w nw))) (b := ((35, [some (.ref 62), some (.int y1), some (.int y2), some (.int y3)], [(.int y2)]), (107, I, J, mm_rf rv sp rr w nw))) rfl (fun h334 => ?_) (fun h334 => ?_)
      · rw [if_pos h334] at e
        refine mm_T.seg (f' := (30, [some (.ref 62), some (.int y1), some (.int y2), some (.int y3)], [(.ref 83), (.int y2)])) (h' := (107, I, J, mm_rf rv sp rr w nw)) 2 rfl ?_
        refine mm_T.seg (f' := (31, [some (.ref 62), some (.int y1), some (.int y2), some (.int y3)], [(.int y3), (.ref 83), (.int y2)])) (h' := (107, I, J, mm_rf rv sp rr w nw)) 1 rfl ?_
        by_cases h335 : y3 < 0 ∨ 7 ≤ y3.toNatClampNeg
        · rw [if_pos h335] at e; cases e
        rw [if_neg h335] at e
        refine mm_T.guard (y := ((32, [some (.ref 62), some (.int y1), some (.int y2), some (.int y3)], [(.int (I 83 y3.toNatClampNeg)), (.int y2)]), (107, I, J, mm_rf rv sp rr w nw))) rfl h335 ?_
        refine mm_T.seg (f' := (4, [some (.ref 62), some (.int y1), some (.int (y2 + (I 83 y3.toNatClampNeg))), some (.int (y3 + 1))], [])) (h' := (107, I, J, mm_rf rv sp rr w nw)) 5 rfl ?_
        refine mm_T.mask [true, true, true, true] ?_
        exact ih y1 (y2 + (I 83 y3.toNatClampNeg)) (y3 + 1) I J rv sp rr w nw out e k
      · rw [if_neg h334] at e
        refine mm_T.seg (f' := (4, [some (.ref 62), some (.int y1), some (.int (y2 + 0)), some (.int (y3 + 1))], [])) (h' := (107, I, J, mm_rf rv sp rr w nw)) 5 rfl ?_
        refine mm_T.mask [true, true, true, true] ?_
        exact ih y1 (y2 + 0) (y3 + 1) I J rv sp rr w nw out e k
    · rw [if_neg h332] at e
      cases e
      refine mm_T.mask [false, false, true, false] ?_
      exact k
set_option maxRecDepth 100000 in
set_option maxHeartbeats 4000000 in
theorem tX12_burdenOf (d n : Nat) (x1 : Int32) (I : Nat → Nat → Int32) (J : Nat → Nat → Int64) (rv sp rr w nw : Nat) (out : Int32) (e : fX12_burdenOf n x1 I = some out) : mm_T none (d + 0) 240 (mm_ent 240 [(.ref 62), (.int x1)]) (107, I, J, mm_rf rv sp rr w nw) (fun v h => v = some (.int out) ∧ h = (107, I, J, mm_rf rv sp rr w nw)) := by
  unfold fX12_burdenOf at e
  refine mm_T.seg (f' := (4, [some (.ref 62), some (.int x1), some (.int 0), some (.int 0)], [])) (h' := (107, I, J, mm_rf rv sp rr w nw)) 4 rfl ?_
  refine mm_T.mask [true, true, true, true] ?_
  obtain ⟨o336, eo336, e⟩ := mm_bind e
  refine tlX12_burdenOf_L4 d _ n x1 0 0 I J rv sp rr w nw o336 eo336 ?_
  refine mm_T.seg (f' := (45, [none, none, some (.int o336), none], [(.int o336)])) (h' := (107, I, J, mm_rf rv sp rr w nw)) 1 rfl ?_
  cases e
  exact mm_T.ret rfl ⟨rfl, rfl⟩
set_option maxRecDepth 100000 in
set_option maxHeartbeats 4000000 in
theorem tlX12_hotterOf_L90 (d : Nat) (Q : Option Value → mm_H → Prop) : ∀ (n : Nat) (y2 : Int32) (y3 : Int32) (I : Nat → Nat → Int32) (J : Nat → Nat → Int64) (rv sp rr w nw : Nat), ∀ (out : (Nat → Nat → Int32)), fX12_hotterOf_L90 n y2 y3 I = some out → mm_T none (d + 2) 241 (238, [some (.ref 62), none, none, none], []) (107, out, J, mm_rf rv sp rr w nw) Q → mm_T none (d + 2) 241 (90, [some (.ref 62), none, some (.int y2), some (.int y3)], []) (107, I, J, mm_rf rv sp rr w nw) Q := by
  intro n
  induction n with
  | zero =>
    intro y2 y3 I J rv sp rr w nw out e k
    rw [fX12_hotterOf_L90] at e; cases e
  | succ n ih =>
    intro y2 y3 I J rv sp rr w nw out e k
    rw [fX12_hotterOf_L90] at e
    refine mm_T.seg (f' := (95, [some (.ref 62), none, some (.int y2), some (.int y3)], [(.int (I 62 18)), (.int y3)])) (h' := (107, I, J, mm_rf rv sp rr w nw)) 3 rfl ?_
    refine mm_T.br (c := y3 < (I 62 18)) (a := ((98, [some (.ref 62), none, some (.int y2), some (.int y3)], []), (107, I, J, mm_rf rv sp rr w nw))) (b := ((238, [some (.ref 62), none, some (.int y2), some (.int y3)], []), (107, I, J, mm_rf rv sp rr w nw))) rfl (fun h343 => ?_) (fun h343 => ?_)
    · rw [if_pos h343] at e
      refine mm_T.seg (f' := (102, [some (.ref 62), none, some (.int y2), some (.int y3)], [(.ref 67)])) (h' := (107, I, J, mm_rf rv sp rr w nw)) 2 rfl ?_
      refine mm_T.seg (f' := (103, [some (.ref 62), none, some (.int y2), some (.int y3)], [(.int y3), (.ref 67)])) (h' := (107, I, J, mm_rf rv sp rr w nw)) 1 rfl ?_
      by_cases h344 : y3 < 0 ∨ 320 ≤ y3.toNatClampNeg
      · rw [if_pos h344] at e; cases e
      rw [if_neg h344] at e
      refine mm_T.guard (y := ((104, [some (.ref 62), none, some (.int y2), some (.int y3)], [(.int (I 67 y3.toNatClampNeg))]), (107, I, J, mm_rf rv sp rr w nw))) rfl h344 ?_
      refine mm_T.br (c := (I 67 y3.toNatClampNeg) = 0) (a := ((117, [some (.ref 62), none, some (.int y2), some (.int y3)], []), (107, I, J, mm_rf rv sp rr w nw))) (b := ((107, [some (.ref 62), none, some (.int y2), some (.int y3)], []), (107, I, J, mm_rf rv sp rr w nw))) rfl (fun h345 => ?_) (fun h345 => ?_)
      · rw [if_pos h345] at e
        refine mm_T.seg (f' := (121, [some (.ref 62), none, some (.int y2), some (.int y3)], [(.ref 70)])) (h' := (107, I, J, mm_rf rv sp rr w nw)) 2 rfl ?_
        refine mm_T.seg (f' := (126, [some (.ref 62), none, some (.int y2), some (.int y3)], [(.ref 67), (.int y2), (.ref 70)])) (h' := (107, I, J, mm_rf rv sp rr w nw)) 3 rfl ?_
        refine mm_T.seg (f' := (127, [some (.ref 62), none, some (.int y2), some (.int y3)], [(.int y3), (.ref 67), (.int y2), (.ref 70)])) (h' := (107, I, J, mm_rf rv sp rr w nw)) 1 rfl ?_
        by_cases h346 : y3 < 0 ∨ 320 ≤ y3.toNatClampNeg
        · rw [if_pos h346] at e; cases e
        rw [if_neg h346] at e
        refine mm_T.guard (y := ((128, [some (.ref 62), none, some (.int y2), some (.int y3)], [(.int (I 67 y3.toNatClampNeg)), (.int y2), (.ref 70)]), (107, I, J, mm_rf rv sp rr w nw))) rfl h346 ?_
        refine mm_T.br (c := (I 67 y3.toNatClampNeg) = 0) (a := ((131, [some (.ref 62), none, some (.int y2), some (.int y3)], [(.int y2), (.ref 70)]), (107, I, J, mm_rf rv sp rr w nw))) (b := ((140, [some (.ref 62), none, some (.int y2), some (.int y3)], [(.int y2), (.ref 70)]), (107, I, J, mm_rf rv sp rr w nw))) rfl (fun h347 => ?_) (fun h347 => ?_)
        · rw [if_pos h347] at e
          refine mm_T.seg (f' := (135, [some (.ref 62), none, some (.int y2), some (.int y3)], [(.ref 68), (.int y2), (.ref 70)])) (h' := (107, I, J, mm_rf rv sp rr w nw)) 2 rfl ?_
          refine mm_T.seg (f' := (136, [some (.ref 62), none, some (.int y2), some (.int y3)], [(.int y3), (.ref 68), (.int y2), (.ref 70)])) (h' := (107, I, J, mm_rf rv sp rr w nw)) 1 rfl ?_
          by_cases h348 : y3 < 0 ∨ 320 ≤ y3.toNatClampNeg
          · rw [if_pos h348] at e; cases e
          rw [if_neg h348] at e
          refine mm_T.guard (y := ((137, [some (.ref 62), none, some (.int y2), some (.int y3)], [(.int (I 68 y3.toNatClampNeg)), (.int y2), (.ref 70)]), (107, I, J, mm_rf rv sp rr w nw))) rfl h348 ?_
          refine mm_T.seg (f' := (151, [some (.ref 62), none, some (.int y2), some (.int y3)], [(.int (I 68 y3.toNatClampNeg)), (.int y2), (.ref 70)])) (h' := (107, I, J, mm_rf rv sp rr w nw)) 1 rfl ?_
          by_cases h349 : y2 < 0 ∨ 64 ≤ y2.toNatClampNeg
          · rw [if_pos h349] at e; cases e
          rw [if_neg h349] at e
          refine mm_T.guard (y := ((152, [some (.ref 62), none, some (.int y2), some (.int y3)], []), (107, (mm_up I 70 y2.toNatClampNeg (I 68 y3.toNatClampNeg)), J, mm_rf rv sp rr w nw))) rfl h349 ?_
          refine mm_T.seg (f' := (90, [some (.ref 62), none, some (.int (y2 + 1)), some (.int (y3 + 1))], [])) (h' := (107, (mm_up I 70 y2.toNatClampNeg (I 68 y3.toNatClampNeg)), J, mm_rf rv sp rr w nw)) 4 rfl ?_
          refine mm_T.mask [true, false, true, true] ?_
          exact ih (y2 + 1) (y3 + 1) (mm_up I 70 y2.toNatClampNeg (I 68 y3.toNatClampNeg)) J rv sp rr w nw out e k
        · rw [if_neg h347] at e
          refine mm_T.seg (f' := (144, [some (.ref 62), none, some (.int y2), some (.int y3)], [(.ref 71), (.int y2), (.ref 70)])) (h' := (107, I, J, mm_rf rv sp rr w nw)) 2 rfl ?_
          refine mm_T.seg (f' := (148, [some (.ref 62), none, some (.int y2), some (.int y3)], [(.ref 68), (.ref 71), (.int y2), (.ref 70)])) (h' := (107, I, J, mm_rf rv sp rr w nw)) 2 rfl ?_
          refine mm_T.seg (f' := (149, [some (.ref 62), none, some (.int y2), some (.int y3)], [(.int y3), (.ref 68), (.ref 71), (.int y2), (.ref 70)])) (h' := (107, I, J, mm_rf rv sp rr w nw)) 1 rfl ?_
          by_cases h350 : y3 < 0 ∨ 320 ≤ y3.toNatClampNeg
          · rw [if_pos h350] at e; cases e
          rw [if_neg h350] at e
          refine mm_T.guard (y := ((150, [some (.ref 62), none, some (.int y2), some (.int y3)], [(.int (I 68 y3.toNatClampNeg)), (.ref 71), (.int y2), (.ref 70)]), (107, I, J, mm_rf rv sp rr w nw))) rfl h350 ?_
          by_cases h351 : (I 68 y3.toNatClampNeg) < 0 ∨ 6 ≤ (I 68 y3.toNatClampNeg).toNatClampNeg
          · rw [if_pos h351] at e; cases e
          rw [if_neg h351] at e
          refine mm_T.guard (y := ((151, [some (.ref 62), none, some (.int y2), some (.int y3)], [(.int (I 71 (I 68 y3.toNatClampNeg).toNatClampNeg)), (.int y2), (.ref 70)]), (107, I, J, mm_rf rv sp rr w nw))) rfl h351 ?_
          by_cases h352 : y2 < 0 ∨ 64 ≤ y2.toNatClampNeg
          · rw [if_pos h352] at e; cases e
          rw [if_neg h352] at e
          refine mm_T.guard (y := ((152, [some (.ref 62), none, some (.int y2), some (.int y3)], []), (107, (mm_up I 70 y2.toNatClampNeg (I 71 (I 68 y3.toNatClampNeg).toNatClampNeg)), J, mm_rf rv sp rr w nw))) rfl h352 ?_
          refine mm_T.seg (f' := (90, [some (.ref 62), none, some (.int (y2 + 1)), some (.int (y3 + 1))], [])) (h' := (107, (mm_up I 70 y2.toNatClampNeg (I 71 (I 68 y3.toNatClampNeg).toNatClampNeg)), J, mm_rf rv sp rr w nw)) 4 rfl ?_
          refine mm_T.mask [true, false, true, true] ?_
          exact ih (y2 + 1) (y3 + 1) (mm_up I 70 y2.toNatClampNeg (I 71 (I 68 y3.toNatClampNeg).toNatClampNeg)) J rv sp rr w nw out e k
      · rw [if_neg h345] at e
        refine mm_T.seg (f' := (111, [some (.ref 62), none, some (.int y2), some (.int y3)], [(.ref 67)])) (h' := (107, I, J, mm_rf rv sp rr w nw)) 2 rfl ?_
        refine mm_T.seg (f' := (112, [some (.ref 62), none, some (.int y2), some (.int y3)], [(.int y3), (.ref 67)])) (h' := (107, I, J, mm_rf rv sp rr w nw)) 1 rfl ?_
        by_cases h353 : y3 < 0 ∨ 320 ≤ y3.toNatClampNeg
        · rw [if_pos h353] at e; cases e
        rw [if_neg h353] at e
        refine mm_T.guard (y := ((113, [some (.ref 62), none, some (.int y2), some (.int y3)], [(.int (I 67 y3.toNatClampNeg))]), (107, I, J, mm_rf rv sp rr w nw))) rfl h353 ?_
        refine mm_T.seg (f' := (114, [some (.ref 62), none, some (.int y2), some (.int y3)], [(.int 1), (.int (I 67 y3.toNatClampNeg))])) (h' := (107, I, J, mm_rf rv sp rr w nw)) 1 rfl ?_
        refine mm_T.br (c := (I 67 y3.toNatClampNeg) = 1) (a := ((117, [some (.ref 62), none, some (.int y2), some (.int y3)], []), (107, I, J, mm_rf rv sp rr w nw))) (b := ((158, [some (.ref 62), none, some (.int y2), some (.int y3)], []), (107, I, J, mm_rf rv sp rr w nw))) rfl (fun h354 => ?_) (fun h354 => ?_)
        · rw [if_pos h354] at e
          refine mm_T.seg (f' := (121, [some (.ref 62), none, some (.int y2), some (.int y3)], [(.ref 70)])) (h' := (107, I, J, mm_rf rv sp rr w nw)) 2 rfl ?_
          refine mm_T.seg (f' := (126, [some (.ref 62), none, some (.int y2), some (.int y3)], [(.ref 67), (.int y2), (.ref 70)])) (h' := (107, I, J, mm_rf rv sp rr w nw)) 3 rfl ?_
          refine mm_T.seg (f' := (127, [some (.ref 62), none, some (.int y2), some (.int y3)], [(.int y3), (.ref 67), (.int y2), (.ref 70)])) (h' := (107, I, J, mm_rf rv sp rr w nw)) 1 rfl ?_
          by_cases h355 : y3 < 0 ∨ 320 ≤ y3.toNatClampNeg
          · rw [if_pos h355] at e; cases e
          rw [if_neg h355] at e
          refine mm_T.guard (y := ((128, [some (.ref 62), none, some (.int y2), some (.int y3)], [(.int (I 67 y3.toNatClampNeg)), (.int y2), (.ref 70)]), (107, I, J, mm_rf rv sp rr w nw))) rfl h355 ?_
          refine mm_T.br (c := (I 67 y3.toNatClampNeg) = 0) (a := ((131, [some (.ref 62), none, some (.int y2), some (.int y3)], [(.int y2), (.ref 70)]), (107, I, J, mm_rf rv sp rr w nw))) (b := ((140, [some (.ref 62), none, some (.int y2), some (.int y3)], [(.int y2), (.ref 70)]), (107, I, J, mm_rf rv sp rr w nw))) rfl (fun h356 => ?_) (fun h356 => ?_)
          · rw [if_pos h356] at e
            refine mm_T.seg (f' := (135, [some (.ref 62), none, some (.int y2), some (.int y3)], [(.ref 68), (.int y2), (.ref 70)])) (h' := (107, I, J, mm_rf rv sp rr w nw)) 2 rfl ?_
            refine mm_T.seg (f' := (136, [some (.ref 62), none, some (.int y2), some (.int y3)], [(.int y3), (.ref 68), (.int y2), (.ref 70)])) (h' := (107, I, J, mm_rf rv sp rr w nw)) 1 rfl ?_
            by_cases h357 : y3 < 0 ∨ 320 ≤ y3.toNatClampNeg
            · rw [if_pos h357] at e; cases e
            rw [if_neg h357] at e
            refine mm_T.guard (y := ((137, [some (.ref 62), none, some (.int y2), some (.int y3)], [(.int (I 68 y3.toNatClampNeg)), (.int y2), (.ref 70)]), (107, I, J, mm_rf rv sp rr w nw))) rfl h357 ?_
            refine mm_T.seg (f' := (151, [some (.ref 62), none, some (.int y2), some (.int y3)], [(.int (I 68 y3.toNatClampNeg)), (.int y2), (.ref 70)])) (h' := (107, I, J, mm_rf rv sp rr w nw)) 1 rfl ?_
            by_cases h358 : y2 < 0 ∨ 64 ≤ y2.toNatClampNeg
            · rw [if_pos h358] at e; cases e
            rw [if_neg h358] at e
            refine mm_T.guard (y := ((152, [some (.ref 62), none, some (.int y2), some (.int y3)], []), (107, (mm_up I 70 y2.toNatClampNeg (I 68 y3.toNatClampNeg)), J, mm_rf rv sp rr w nw))) rfl h358 ?_
            refine mm_T.seg (f' := (90, [some (.ref 62), none, some (.int (y2 + 1)), some (.int (y3 + 1))], [])) (h' := (107, (mm_up I 70 y2.toNatClampNeg (I 68 y3.toNatClampNeg)), J, mm_rf rv sp rr w nw)) 4 rfl ?_
            refine mm_T.mask [true, false, true, true] ?_
            exact ih (y2 + 1) (y3 + 1) (mm_up I 70 y2.toNatClampNeg (I 68 y3.toNatClampNeg)) J rv sp rr w nw out e k
          · rw [if_neg h356] at e
            refine mm_T.seg (f' := (144, [some (.ref 62), none, some (.int y2), some (.int y3)], [(.ref 71), (.int y2), (.ref 70)])) (h' := (107, I, J, mm_rf rv sp rr w nw)) 2 rfl ?_
            refine mm_T.seg (f' := (148, [some (.ref 62), none, some (.int y2), some (.int y3)], [(.ref 68), (.ref 71), (.int y2), (.ref 70)])) (h' := (107, I, J, mm_rf rv sp rr w nw)) 2 rfl ?_
            refine mm_T.seg (f' := (149, [some (.ref 62), none, some (.int y2), some (.int y3)], [(.int y3), (.ref 68), (.ref 71), (.int y2), (.ref 70)])) (h' := (107, I, J, mm_rf rv sp rr w nw)) 1 rfl ?_
            by_cases h359 : y3 < 0 ∨ 320 ≤ y3.toNatClampNeg
            · rw [if_pos h359] at e; cases e
            rw [if_neg h359] at e
            refine mm_T.guard (y := ((150, [some (.ref 62), none, some (.int y2), some (.int y3)], [(.int (I 68 y3.toNatClampNeg)), (.ref 71), (.int y2), (.ref 70)]), (107, I, J, mm_rf rv sp rr w nw))) rfl h359 ?_
            by_cases h360 : (I 68 y3.toNatClampNeg) < 0 ∨ 6 ≤ (I 68 y3.toNatClampNeg).toNatClampNeg
            · rw [if_pos h360] at e; cases e
            rw [if_neg h360] at e
            refine mm_T.guard (y := ((151, [some (.ref 62), none, some (.int y2), some (.int y3)], [(.int (I 71 (I 68 y3.toNatClampNeg).toNatClampNeg)), (.int y2), (.ref 70)]), (107, I, J, mm_rf rv sp rr w nw))) rfl h360 ?_
            by_cases h361 : y2 < 0 ∨ 64 ≤ y2.toNatClampNeg
            · rw [if_pos h361] at e; cases e
            rw [if_neg h361] at e
            refine mm_T.guard (y := ((152, [some (.ref 62), none, some (.int y2), some (.int y3)], []), (107, (mm_up I 70 y2.toNatClampNeg (I 71 (I 68 y3.toNatClampNeg).toNatClampNeg)), J, mm_rf rv sp rr w nw))) rfl h361 ?_
            refine mm_T.seg (f' := (90, [some (.ref 62), none, some (.int (y2 + 1)), some (.int (y3 + 1))], [])) (h' := (107, (mm_up I 70 y2.toNatClampNeg (I 71 (I 68 y3.toNatClampNeg).toNatClampNeg)), J, mm_rf rv sp rr w nw)) 4 rfl ?_
            refine mm_T.mask [true, false, true, true] ?_
            exact ih (y2 + 1) (y3 + 1) (mm_up I 70 y2.toNatClampNeg (I 71 (I 68 y3.toNatClampNeg).toNatClampNeg)) J rv sp rr w nw out e k
        · rw [if_neg h354] at e
          refine mm_T.seg (f' := (162, [some (.ref 62), none, some (.int y2), some (.int y3)], [(.ref 67)])) (h' := (107, I, J, mm_rf rv sp rr w nw)) 2 rfl ?_
          refine mm_T.seg (f' := (163, [some (.ref 62), none, some (.int y2), some (.int y3)], [(.int y3), (.ref 67)])) (h' := (107, I, J, mm_rf rv sp rr w nw)) 1 rfl ?_
          by_cases h362 : y3 < 0 ∨ 320 ≤ y3.toNatClampNeg
          · rw [if_pos h362] at e; cases e
          rw [if_neg h362] at e
          refine mm_T.guard (y := ((164, [some (.ref 62), none, some (.int y2), some (.int y3)], [(.int (I 67 y3.toNatClampNeg))]), (107, I, J, mm_rf rv sp rr w nw))) rfl h362 ?_
          refine mm_T.seg (f' := (165, [some (.ref 62), none, some (.int y2), some (.int y3)], [(.int 2), (.int (I 67 y3.toNatClampNeg))])) (h' := (107, I, J, mm_rf rv sp rr w nw)) 1 rfl ?_
          refine mm_T.br (c := (I 67 y3.toNatClampNeg) = 2) (a := ((168, [some (.ref 62), none, some (.int y2), some (.int y3)], []), (107, I, J, mm_rf rv sp rr w nw))) (b := ((198, [some (.ref 62), none, some (.int y2), some (.int y3)], []), (107, I, J, mm_rf rv sp rr w nw))) rfl (fun h363 => ?_) (fun h363 => ?_)
          · rw [if_pos h363] at e
            refine mm_T.seg (f' := (172, [some (.ref 62), none, some (.int y2), some (.int y3)], [(.ref 70)])) (h' := (107, I, J, mm_rf rv sp rr w nw)) 2 rfl ?_
            refine mm_T.seg (f' := (179, [some (.ref 62), none, some (.int y2), some (.int y3)], [(.ref 70), (.int (y2 - 1)), (.ref 70)])) (h' := (107, I, J, mm_rf rv sp rr w nw)) 5 rfl ?_
            refine mm_T.seg (f' := (182, [some (.ref 62), none, some (.int y2), some (.int y3)], [(.int (y2 - 1)), (.ref 70), (.int (y2 - 1)), (.ref 70)])) (h' := (107, I, J, mm_rf rv sp rr w nw)) 3 rfl ?_
            by_cases h364 : (y2 - 1) < 0 ∨ 64 ≤ (y2 - 1).toNatClampNeg
            · rw [if_pos h364] at e; cases e
            rw [if_neg h364] at e
            refine mm_T.guard (c := (y2 - 1) < 0 ∨ 64 ≤ (y2 - 1).toNatClampNeg) (y := ((183, [some (.ref 62), none, some (.int y2), some (.int y3)], [(.int (I 70 (y2 - 1).toNatClampNeg)), (.int (y2 - 1)), (.ref 70)]), (107, I, J, mm_rf rv sp rr w nw))) (mm_gen (P := fun z => mm_stp none 241 (182, [some (.ref 62), none, some (.int y2), some (.int y3)], [(.int z), (.ref 70), (.int z), (.ref 70)]) (107, I, J, mm_rf rv sp rr w nw) = if z < 0 ∨ 64 ≤ z.toNatClampNeg then none else some (.inl ((183, [some (.ref 62), none, some (.int y2), some (.int y3)], [(.int (I 70 z.toNatClampNeg)), (.int z), (.ref 70)]), (107, I, J, mm_rf rv sp rr w nw)))) (y2 - 1) (fun z => rfl)) h364 ?_
            refine mm_T.br (c := (I 70 (y2 - 1).toNatClampNeg) = 0) (a := ((186, [some (.ref 62), none, some (.int y2), some (.int y3)], [(.int (y2 - 1)), (.ref 70)]), (107, I, J, mm_rf rv sp rr w nw))) (b := ((190, [some (.ref 62), none, some (.int y2), some (.int y3)], [(.int (y2 - 1)), (.ref 70)]), (107, I, J, mm_rf rv sp rr w nw))) rfl (fun h365 => ?_) (fun h365 => ?_)
            · rw [if_pos h365] at e
              refine mm_T.seg (f' := (191, [some (.ref 62), none, some (.int y2), some (.int y3)], [(.int 1), (.int (y2 - 1)), (.ref 70)])) (h' := (107, I, J, mm_rf rv sp rr w nw)) 2 rfl ?_
              obtain ⟨g105, hg105⟩ : ∃ z, fX12_truth 1 = z := ⟨_, rfl⟩
              try rw [hg105] at e
              refine mm_T.call (t := 236) (as := [(.int 1)]) (f' := (194, [some (.ref 62), none, some (.int y2), some (.int y3)], [(.int (y2 - 1)), (.ref 70)])) rfl (tX12_truth (d + 1) 1 I J rv sp rr w nw g105 hg105) (fun v h hq => ?_)
              obtain ⟨rfl, rfl⟩ := hq
              by_cases h366 : (y2 - 1) < 0 ∨ 64 ≤ (y2 - 1).toNatClampNeg
              · rw [if_pos h366] at e; cases e
              rw [if_neg h366] at e
              refine mm_T.guard (c := (y2 - 1) < 0 ∨ 64 ≤ (y2 - 1).toNatClampNeg) (y := ((195, [some (.ref 62), none, some (.int y2), some (.int y3)], []), (107, (mm_up I 70 (y2 - 1).toNatClampNeg g105), J, mm_rf rv sp rr w nw))) (mm_gen (P := fun z => mm_stp none 241 (194, [some (.ref 62), none, some (.int y2), some (.int y3)], [(.int g105), (.int z), (.ref 70)]) (107, I, J, mm_rf rv sp rr w nw) = if z < 0 ∨ 64 ≤ z.toNatClampNeg then none else some (.inl ((195, [some (.ref 62), none, some (.int y2), some (.int y3)], []), (107, (mm_up I 70 z.toNatClampNeg g105), J, mm_rf rv sp rr w nw)))) (y2 - 1) (fun z => rfl)) h366 ?_
              refine mm_T.seg (f' := (90, [some (.ref 62), none, some (.int y2), some (.int (y3 + 1))], [])) (h' := (107, (mm_up I 70 (y2 - 1).toNatClampNeg g105), J, mm_rf rv sp rr w nw)) 3 rfl ?_
              refine mm_T.mask [true, false, true, true] ?_
              exact ih y2 (y3 + 1) (mm_up I 70 (y2 - 1).toNatClampNeg g105) J rv sp rr w nw out e k
            · rw [if_neg h365] at e
              refine mm_T.seg (f' := (191, [some (.ref 62), none, some (.int y2), some (.int y3)], [(.int 0), (.int (y2 - 1)), (.ref 70)])) (h' := (107, I, J, mm_rf rv sp rr w nw)) 1 rfl ?_
              obtain ⟨g106, hg106⟩ : ∃ z, fX12_truth 0 = z := ⟨_, rfl⟩
              try rw [hg106] at e
              refine mm_T.call (t := 236) (as := [(.int 0)]) (f' := (194, [some (.ref 62), none, some (.int y2), some (.int y3)], [(.int (y2 - 1)), (.ref 70)])) rfl (tX12_truth (d + 1) 0 I J rv sp rr w nw g106 hg106) (fun v h hq => ?_)
              obtain ⟨rfl, rfl⟩ := hq
              by_cases h367 : (y2 - 1) < 0 ∨ 64 ≤ (y2 - 1).toNatClampNeg
              · rw [if_pos h367] at e; cases e
              rw [if_neg h367] at e
              refine mm_T.guard (c := (y2 - 1) < 0 ∨ 64 ≤ (y2 - 1).toNatClampNeg) (y := ((195, [some (.ref 62), none, some (.int y2), some (.int y3)], []), (107, (mm_up I 70 (y2 - 1).toNatClampNeg g106), J, mm_rf rv sp rr w nw))) (mm_gen (P := fun z => mm_stp none 241 (194, [some (.ref 62), none, some (.int y2), some (.int y3)], [(.int g106), (.int z), (.ref 70)]) (107, I, J, mm_rf rv sp rr w nw) = if z < 0 ∨ 64 ≤ z.toNatClampNeg then none else some (.inl ((195, [some (.ref 62), none, some (.int y2), some (.int y3)], []), (107, (mm_up I 70 z.toNatClampNeg g106), J, mm_rf rv sp rr w nw)))) (y2 - 1) (fun z => rfl)) h367 ?_
              refine mm_T.seg (f' := (90, [some (.ref 62), none, some (.int y2), some (.int (y3 + 1))], [])) (h' := (107, (mm_up I 70 (y2 - 1).toNatClampNeg g106), J, mm_rf rv sp rr w nw)) 3 rfl ?_
              refine mm_T.mask [true, false, true, true] ?_
              exact ih y2 (y3 + 1) (mm_up I 70 (y2 - 1).toNatClampNeg g106) J rv sp rr w nw out e k
          · rw [if_neg h363] at e
            refine mm_T.seg (f' := (205, [some (.ref 62), none, some (.int (y2 + (-1))), some (.int y3)], [(.ref 70)])) (h' := (107, I, J, mm_rf rv sp rr w nw)) 3 rfl ?_
            refine mm_T.seg (f' := (212, [some (.ref 62), none, some (.int (y2 + (-1))), some (.int y3)], [(.ref 68), (.int ((y2 + (-1)) - 1)), (.ref 70)])) (h' := (107, I, J, mm_rf rv sp rr w nw)) 5 rfl ?_
            refine mm_T.seg (f' := (213, [some (.ref 62), none, some (.int (y2 + (-1))), some (.int y3)], [(.int y3), (.ref 68), (.int ((y2 + (-1)) - 1)), (.ref 70)])) (h' := (107, I, J, mm_rf rv sp rr w nw)) 1 rfl ?_
            by_cases h368 : y3 < 0 ∨ 320 ≤ y3.toNatClampNeg
            · rw [if_pos h368] at e; cases e
            rw [if_neg h368] at e
            refine mm_T.guard (y := ((214, [some (.ref 62), none, some (.int (y2 + (-1))), some (.int y3)], [(.int (I 68 y3.toNatClampNeg)), (.int ((y2 + (-1)) - 1)), (.ref 70)]), (107, I, J, mm_rf rv sp rr w nw))) rfl h368 ?_
            refine mm_T.seg (f' := (218, [some (.ref 62), none, some (.int (y2 + (-1))), some (.int y3)], [(.ref 70), (.int (I 68 y3.toNatClampNeg)), (.int ((y2 + (-1)) - 1)), (.ref 70)])) (h' := (107, I, J, mm_rf rv sp rr w nw)) 2 rfl ?_
            refine mm_T.seg (f' := (221, [some (.ref 62), none, some (.int (y2 + (-1))), some (.int y3)], [(.int ((y2 + (-1)) - 1)), (.ref 70), (.int (I 68 y3.toNatClampNeg)), (.int ((y2 + (-1)) - 1)), (.ref 70)])) (h' := (107, I, J, mm_rf rv sp rr w nw)) 3 rfl ?_
            by_cases h369 : ((y2 + (-1)) - 1) < 0 ∨ 64 ≤ ((y2 + (-1)) - 1).toNatClampNeg
            · rw [if_pos h369] at e; cases e
            rw [if_neg h369] at e
            refine mm_T.guard (c := ((y2 + (-1)) - 1) < 0 ∨ 64 ≤ ((y2 + (-1)) - 1).toNatClampNeg) (y := ((222, [some (.ref 62), none, some (.int (y2 + (-1))), some (.int y3)], [(.int (I 70 ((y2 + (-1)) - 1).toNatClampNeg)), (.int (I 68 y3.toNatClampNeg)), (.int ((y2 + (-1)) - 1)), (.ref 70)]), (107, I, J, mm_rf rv sp rr w nw))) (mm_gen (P := fun z => mm_stp none 241 (221, [some (.ref 62), none, some (.int (y2 + (-1))), some (.int y3)], [(.int z), (.ref 70), (.int (I 68 y3.toNatClampNeg)), (.int z), (.ref 70)]) (107, I, J, mm_rf rv sp rr w nw) = if z < 0 ∨ 64 ≤ z.toNatClampNeg then none else some (.inl ((222, [some (.ref 62), none, some (.int (y2 + (-1))), some (.int y3)], [(.int (I 70 z.toNatClampNeg)), (.int (I 68 y3.toNatClampNeg)), (.int z), (.ref 70)]), (107, I, J, mm_rf rv sp rr w nw)))) ((y2 + (-1)) - 1) (fun z => rfl)) h369 ?_
            refine mm_T.seg (f' := (226, [some (.ref 62), none, some (.int (y2 + (-1))), some (.int y3)], [(.ref 70), (.int (I 70 ((y2 + (-1)) - 1).toNatClampNeg)), (.int (I 68 y3.toNatClampNeg)), (.int ((y2 + (-1)) - 1)), (.ref 70)])) (h' := (107, I, J, mm_rf rv sp rr w nw)) 2 rfl ?_
            refine mm_T.seg (f' := (227, [some (.ref 62), none, some (.int (y2 + (-1))), some (.int y3)], [(.int (y2 + (-1))), (.ref 70), (.int (I 70 ((y2 + (-1)) - 1).toNatClampNeg)), (.int (I 68 y3.toNatClampNeg)), (.int ((y2 + (-1)) - 1)), (.ref 70)])) (h' := (107, I, J, mm_rf rv sp rr w nw)) 1 rfl ?_
            by_cases h370 : (y2 + (-1)) < 0 ∨ 64 ≤ (y2 + (-1)).toNatClampNeg
            · rw [if_pos h370] at e; cases e
            rw [if_neg h370] at e
            refine mm_T.guard (c := (y2 + (-1)) < 0 ∨ 64 ≤ (y2 + (-1)).toNatClampNeg) (y := ((228, [some (.ref 62), none, some (.int (y2 + (-1))), some (.int y3)], [(.int (I 70 (y2 + (-1)).toNatClampNeg)), (.int (I 70 ((y2 + (-1)) - 1).toNatClampNeg)), (.int (I 68 y3.toNatClampNeg)), (.int ((y2 + (-1)) - 1)), (.ref 70)]), (107, I, J, mm_rf rv sp rr w nw))) (mm_gen (P := fun z => mm_stp none 241 (227, [some (.ref 62), none, some (.int z), some (.int y3)], [(.int z), (.ref 70), (.int (I 70 (z - 1).toNatClampNeg)), (.int (I 68 y3.toNatClampNeg)), (.int (z - 1)), (.ref 70)]) (107, I, J, mm_rf rv sp rr w nw) = if z < 0 ∨ 64 ≤ z.toNatClampNeg then none else some (.inl ((228, [some (.ref 62), none, some (.int z), some (.int y3)], [(.int (I 70 z.toNatClampNeg)), (.int (I 70 (z - 1).toNatClampNeg)), (.int (I 68 y3.toNatClampNeg)), (.int (z - 1)), (.ref 70)]), (107, I, J, mm_rf rv sp rr w nw)))) (y2 + (-1)) (fun z => rfl)) h370 ?_
            obtain ⟨o371, eo371, e⟩ := mm_bind e
            refine mm_T.call (t := 237) (as := [(.int (I 68 y3.toNatClampNeg)), (.int (I 70 ((y2 + (-1)) - 1).toNatClampNeg)), (.int (I 70 (y2 + (-1)).toNatClampNeg))]) (f' := (231, [some (.ref 62), none, some (.int (y2 + (-1))), some (.int y3)], [(.int ((y2 + (-1)) - 1)), (.ref 70)])) rfl (tX12_done (d + 0) (I 68 y3.toNatClampNeg) (I 70 ((y2 + (-1)) - 1).toNatClampNeg) (I 70 (y2 + (-1)).toNatClampNeg) I J rv sp rr w nw o371 eo371) (fun v h hq => ?_)
            obtain ⟨rfl, rfl⟩ := hq
            by_cases h372 : ((y2 + (-1)) - 1) < 0 ∨ 64 ≤ ((y2 + (-1)) - 1).toNatClampNeg
            · rw [if_pos h372] at e; cases e
            rw [if_neg h372] at e
            refine mm_T.guard (c := ((y2 + (-1)) - 1) < 0 ∨ 64 ≤ ((y2 + (-1)) - 1).toNatClampNeg) (y := ((232, [some (.ref 62), none, some (.int (y2 + (-1))), some (.int y3)], []), (107, (mm_up I 70 ((y2 + (-1)) - 1).toNatClampNeg o371), J, mm_rf rv sp rr w nw))) (mm_gen (P := fun z => mm_stp none 241 (231, [some (.ref 62), none, some (.int (y2 + (-1))), some (.int y3)], [(.int o371), (.int z), (.ref 70)]) (107, I, J, mm_rf rv sp rr w nw) = if z < 0 ∨ 64 ≤ z.toNatClampNeg then none else some (.inl ((232, [some (.ref 62), none, some (.int (y2 + (-1))), some (.int y3)], []), (107, (mm_up I 70 z.toNatClampNeg o371), J, mm_rf rv sp rr w nw)))) ((y2 + (-1)) - 1) (fun z => rfl)) h372 ?_
            refine mm_T.seg (f' := (90, [some (.ref 62), none, some (.int (y2 + (-1))), some (.int (y3 + 1))], [])) (h' := (107, (mm_up I 70 ((y2 + (-1)) - 1).toNatClampNeg o371), J, mm_rf rv sp rr w nw)) 2 rfl ?_
            refine mm_T.mask [true, false, true, true] ?_
            exact ih (y2 + (-1)) (y3 + 1) (mm_up I 70 ((y2 + (-1)) - 1).toNatClampNeg o371) J rv sp rr w nw out e k
    · rw [if_neg h343] at e
      cases e
      refine mm_T.mask [true, false, false, false] ?_
      exact k
set_option maxRecDepth 100000 in
set_option maxHeartbeats 4000000 in
theorem tX12_hotterOf (d n : Nat) (x1 : Int32) (I : Nat → Nat → Int32) (J : Nat → Nat → Int64) (rv sp rr w nw : Nat) (out : Int32 × (Nat → Nat → Int32)) (e : fX12_hotterOf n x1 I = some out) : mm_T none (d + 2) 241 (mm_ent 241 [(.ref 62), (.int x1)]) (107, I, J, mm_rf rv sp rr w nw) (fun v h => v = some (.int out.1) ∧ h = (107, out.2, J, mm_rf rv sp rr w nw)) := by
  unfold fX12_hotterOf at e
  refine mm_T.seg (f' := (4, [some (.ref 62), some (.int x1), none, none], [(.ref 71)])) (h' := (107, I, J, mm_rf rv sp rr w nw)) 2 rfl ?_
  refine mm_T.seg (f' := (9, [some (.ref 62), some (.int x1), none, none], [(.ref 85), (.int 0), (.ref 71)])) (h' := (107, I, J, mm_rf rv sp rr w nw)) 3 rfl ?_
  refine mm_T.seg (f' := (12, [some (.ref 62), some (.int x1), none, none], [(.int (4 + x1)), (.ref 85), (.int 0), (.ref 71)])) (h' := (107, I, J, mm_rf rv sp rr w nw)) 3 rfl ?_
  by_cases h337 : (4 + x1) < 0 ∨ 28 ≤ (4 + x1).toNatClampNeg
  · rw [if_pos h337] at e; cases e
  rw [if_neg h337] at e
  refine mm_T.guard (c := (4 + x1) < 0 ∨ 28 ≤ (4 + x1).toNatClampNeg) (y := ((13, [some (.ref 62), some (.int x1), none, none], [(.int (I 85 (4 + x1).toNatClampNeg)), (.int 0), (.ref 71)]), (107, I, J, mm_rf rv sp rr w nw))) (mm_gen (P := fun z => mm_stp none 241 (12, [some (.ref 62), some (.int x1), none, none], [(.int z), (.ref 85), (.int 0), (.ref 71)]) (107, I, J, mm_rf rv sp rr w nw) = if z < 0 ∨ 28 ≤ z.toNatClampNeg then none else some (.inl ((13, [some (.ref 62), some (.int x1), none, none], [(.int (I 85 z.toNatClampNeg)), (.int 0), (.ref 71)]), (107, I, J, mm_rf rv sp rr w nw)))) (4 + x1) (fun z => rfl)) h337 ?_
  refine mm_T.seg (f' := (18, [some (.ref 62), some (.int x1), none, none], [(.ref 71)])) (h' := (107, (mm_up I 71 0 (I 85 (4 + x1).toNatClampNeg)), J, mm_rf rv sp rr w nw)) 3 rfl ?_
  refine mm_T.seg (f' := (23, [some (.ref 62), some (.int x1), none, none], [(.ref 85), (.int 1), (.ref 71)])) (h' := (107, (mm_up I 71 0 (I 85 (4 + x1).toNatClampNeg)), J, mm_rf rv sp rr w nw)) 3 rfl ?_
  refine mm_T.seg (f' := (24, [some (.ref 62), some (.int x1), none, none], [(.int x1), (.ref 85), (.int 1), (.ref 71)])) (h' := (107, (mm_up I 71 0 (I 85 (4 + x1).toNatClampNeg)), J, mm_rf rv sp rr w nw)) 1 rfl ?_
  by_cases h338 : x1 < 0 ∨ 28 ≤ x1.toNatClampNeg
  · rw [if_pos h338] at e; cases e
  rw [if_neg h338] at e
  refine mm_T.guard (y := ((25, [some (.ref 62), some (.int x1), none, none], [(.int (I 85 x1.toNatClampNeg)), (.int 1), (.ref 71)]), (107, (mm_up I 71 0 (I 85 (4 + x1).toNatClampNeg)), J, mm_rf rv sp rr w nw))) rfl h338 ?_
  refine mm_T.seg (f' := (30, [some (.ref 62), some (.int x1), none, none], [(.ref 71)])) (h' := (107, (mm_up (mm_up I 71 0 (I 85 (4 + x1).toNatClampNeg)) 71 1 (I 85 x1.toNatClampNeg)), J, mm_rf rv sp rr w nw)) 3 rfl ?_
  refine mm_T.seg (f' := (33, [some (.ref 62), some (.int x1), none, none], [(.int x1), (.ref 62), (.int 2), (.ref 71)])) (h' := (107, (mm_up (mm_up I 71 0 (I 85 (4 + x1).toNatClampNeg)) 71 1 (I 85 x1.toNatClampNeg)), J, mm_rf rv sp rr w nw)) 3 rfl ?_
  obtain ⟨o339, eo339, e⟩ := mm_bind e
  refine mm_T.call (t := 240) (as := [(.ref 62), (.int x1)]) (f' := (36, [some (.ref 62), some (.int x1), none, none], [(.int 2), (.ref 71)])) rfl (tX12_burdenOf (d + 1) n x1 (mm_up (mm_up I 71 0 (I 85 (4 + x1).toNatClampNeg)) 71 1 (I 85 x1.toNatClampNeg)) J rv sp rr w nw o339 eo339) (fun v h hq => ?_)
  obtain ⟨rfl, rfl⟩ := hq
  refine mm_T.seg (f' := (41, [some (.ref 62), some (.int x1), none, none], [(.ref 71)])) (h' := (107, (mm_up (mm_up (mm_up I 71 0 (I 85 (4 + x1).toNatClampNeg)) 71 1 (I 85 x1.toNatClampNeg)) 71 2 o339), J, mm_rf rv sp rr w nw)) 3 rfl ?_
  refine mm_T.seg (f' := (46, [some (.ref 62), some (.int x1), none, none], [(.ref 80), (.int 3), (.ref 71)])) (h' := (107, (mm_up (mm_up (mm_up I 71 0 (I 85 (4 + x1).toNatClampNeg)) 71 1 (I 85 x1.toNatClampNeg)) 71 2 o339), J, mm_rf rv sp rr w nw)) 3 rfl ?_
  refine mm_T.seg (f' := (47, [some (.ref 62), some (.int x1), none, none], [(.int x1), (.ref 80), (.int 3), (.ref 71)])) (h' := (107, (mm_up (mm_up (mm_up I 71 0 (I 85 (4 + x1).toNatClampNeg)) 71 1 (I 85 x1.toNatClampNeg)) 71 2 o339), J, mm_rf rv sp rr w nw)) 1 rfl ?_
  by_cases h340 : x1 < 0 ∨ 4 ≤ x1.toNatClampNeg
  · rw [if_pos h340] at e; cases e
  rw [if_neg h340] at e
  refine mm_T.guard (y := ((48, [some (.ref 62), some (.int x1), none, none], [(.int (I 80 x1.toNatClampNeg)), (.int 3), (.ref 71)]), (107, (mm_up (mm_up (mm_up I 71 0 (I 85 (4 + x1).toNatClampNeg)) 71 1 (I 85 x1.toNatClampNeg)) 71 2 o339), J, mm_rf rv sp rr w nw))) rfl h340 ?_
  refine mm_T.seg (f' := (53, [some (.ref 62), some (.int x1), none, none], [(.ref 71)])) (h' := (107, (mm_up (mm_up (mm_up (mm_up I 71 0 (I 85 (4 + x1).toNatClampNeg)) 71 1 (I 85 x1.toNatClampNeg)) 71 2 o339) 71 3 (I 80 x1.toNatClampNeg)), J, mm_rf rv sp rr w nw)) 3 rfl ?_
  refine mm_T.seg (f' := (58, [some (.ref 62), some (.int x1), none, none], [(.ref 85), (.int 4), (.ref 71)])) (h' := (107, (mm_up (mm_up (mm_up (mm_up I 71 0 (I 85 (4 + x1).toNatClampNeg)) 71 1 (I 85 x1.toNatClampNeg)) 71 2 o339) 71 3 (I 80 x1.toNatClampNeg)), J, mm_rf rv sp rr w nw)) 3 rfl ?_
  refine mm_T.seg (f' := (62, [some (.ref 62), some (.int x1), none, none], [(.int (16 + x1)), (.ref 85), (.int 4), (.ref 71)])) (h' := (107, (mm_up (mm_up (mm_up (mm_up I 71 0 (I 85 (4 + x1).toNatClampNeg)) 71 1 (I 85 x1.toNatClampNeg)) 71 2 o339) 71 3 (I 80 x1.toNatClampNeg)), J, mm_rf rv sp rr w nw)) 3 rfl ?_
  by_cases h341 : (16 + x1) < 0 ∨ 28 ≤ (16 + x1).toNatClampNeg
  · rw [if_pos h341] at e; cases e
  rw [if_neg h341] at e
  refine mm_T.guard (c := (16 + x1) < 0 ∨ 28 ≤ (16 + x1).toNatClampNeg) (y := ((63, [some (.ref 62), some (.int x1), none, none], [(.int (I 85 (16 + x1).toNatClampNeg)), (.int 4), (.ref 71)]), (107, (mm_up (mm_up (mm_up (mm_up I 71 0 (I 85 (4 + x1).toNatClampNeg)) 71 1 (I 85 x1.toNatClampNeg)) 71 2 o339) 71 3 (I 80 x1.toNatClampNeg)), J, mm_rf rv sp rr w nw))) (mm_gen (P := fun z => mm_stp none 241 (62, [some (.ref 62), some (.int x1), none, none], [(.int z), (.ref 85), (.int 4), (.ref 71)]) (107, (mm_up (mm_up (mm_up (mm_up I 71 0 (I 85 (4 + x1).toNatClampNeg)) 71 1 (I 85 x1.toNatClampNeg)) 71 2 o339) 71 3 (I 80 x1.toNatClampNeg)), J, mm_rf rv sp rr w nw) = if z < 0 ∨ 28 ≤ z.toNatClampNeg then none else some (.inl ((63, [some (.ref 62), some (.int x1), none, none], [(.int (I 85 z.toNatClampNeg)), (.int 4), (.ref 71)]), (107, (mm_up (mm_up (mm_up (mm_up I 71 0 (I 85 (4 + x1).toNatClampNeg)) 71 1 (I 85 x1.toNatClampNeg)) 71 2 o339) 71 3 (I 80 x1.toNatClampNeg)), J, mm_rf rv sp rr w nw)))) (16 + x1) (fun z => rfl)) h341 ?_
  refine mm_T.seg (f' := (68, [some (.ref 62), some (.int x1), none, none], [(.ref 71)])) (h' := (107, (mm_up (mm_up (mm_up (mm_up (mm_up I 71 0 (I 85 (4 + x1).toNatClampNeg)) 71 1 (I 85 x1.toNatClampNeg)) 71 2 o339) 71 3 (I 80 x1.toNatClampNeg)) 71 4 (I 85 (16 + x1).toNatClampNeg)), J, mm_rf rv sp rr w nw)) 3 rfl ?_
  refine mm_T.seg (f' := (73, [some (.ref 62), some (.int x1), none, none], [(.ref 85), (.int 5), (.ref 71)])) (h' := (107, (mm_up (mm_up (mm_up (mm_up (mm_up I 71 0 (I 85 (4 + x1).toNatClampNeg)) 71 1 (I 85 x1.toNatClampNeg)) 71 2 o339) 71 3 (I 80 x1.toNatClampNeg)) 71 4 (I 85 (16 + x1).toNatClampNeg)), J, mm_rf rv sp rr w nw)) 3 rfl ?_
  refine mm_T.seg (f' := (77, [some (.ref 62), some (.int x1), none, none], [(.int (8 + x1)), (.ref 85), (.int 5), (.ref 71)])) (h' := (107, (mm_up (mm_up (mm_up (mm_up (mm_up I 71 0 (I 85 (4 + x1).toNatClampNeg)) 71 1 (I 85 x1.toNatClampNeg)) 71 2 o339) 71 3 (I 80 x1.toNatClampNeg)) 71 4 (I 85 (16 + x1).toNatClampNeg)), J, mm_rf rv sp rr w nw)) 3 rfl ?_
  by_cases h342 : (8 + x1) < 0 ∨ 28 ≤ (8 + x1).toNatClampNeg
  · rw [if_pos h342] at e; cases e
  rw [if_neg h342] at e
  refine mm_T.guard (c := (8 + x1) < 0 ∨ 28 ≤ (8 + x1).toNatClampNeg) (y := ((78, [some (.ref 62), some (.int x1), none, none], [(.int (I 85 (8 + x1).toNatClampNeg)), (.int 5), (.ref 71)]), (107, (mm_up (mm_up (mm_up (mm_up (mm_up I 71 0 (I 85 (4 + x1).toNatClampNeg)) 71 1 (I 85 x1.toNatClampNeg)) 71 2 o339) 71 3 (I 80 x1.toNatClampNeg)) 71 4 (I 85 (16 + x1).toNatClampNeg)), J, mm_rf rv sp rr w nw))) (mm_gen (P := fun z => mm_stp none 241 (77, [some (.ref 62), some (.int x1), none, none], [(.int z), (.ref 85), (.int 5), (.ref 71)]) (107, (mm_up (mm_up (mm_up (mm_up (mm_up I 71 0 (I 85 (4 + x1).toNatClampNeg)) 71 1 (I 85 x1.toNatClampNeg)) 71 2 o339) 71 3 (I 80 x1.toNatClampNeg)) 71 4 (I 85 (16 + x1).toNatClampNeg)), J, mm_rf rv sp rr w nw) = if z < 0 ∨ 28 ≤ z.toNatClampNeg then none else some (.inl ((78, [some (.ref 62), some (.int x1), none, none], [(.int (I 85 z.toNatClampNeg)), (.int 5), (.ref 71)]), (107, (mm_up (mm_up (mm_up (mm_up (mm_up I 71 0 (I 85 (4 + x1).toNatClampNeg)) 71 1 (I 85 x1.toNatClampNeg)) 71 2 o339) 71 3 (I 80 x1.toNatClampNeg)) 71 4 (I 85 (16 + x1).toNatClampNeg)), J, mm_rf rv sp rr w nw)))) (8 + x1) (fun z => rfl)) h342 ?_
  refine mm_T.seg (f' := (85, [some (.ref 62), some (.int x1), some (.int 0), none], [(.ref 70)])) (h' := (107, (mm_up (mm_up (mm_up (mm_up (mm_up (mm_up I 71 0 (I 85 (4 + x1).toNatClampNeg)) 71 1 (I 85 x1.toNatClampNeg)) 71 2 o339) 71 3 (I 80 x1.toNatClampNeg)) 71 4 (I 85 (16 + x1).toNatClampNeg)) 71 5 (I 85 (8 + x1).toNatClampNeg)), J, mm_rf rv sp rr w nw)) 5 rfl ?_
  refine mm_T.seg (f' := (90, [some (.ref 62), some (.int x1), some (.int 0), some (.int 0)], [])) (h' := (107, (mm_up (mm_up (mm_up (mm_up (mm_up (mm_up (mm_up I 71 0 (I 85 (4 + x1).toNatClampNeg)) 71 1 (I 85 x1.toNatClampNeg)) 71 2 o339) 71 3 (I 80 x1.toNatClampNeg)) 71 4 (I 85 (16 + x1).toNatClampNeg)) 71 5 (I 85 (8 + x1).toNatClampNeg)) 70 0 1), J, mm_rf rv sp rr w nw)) 5 rfl ?_
  refine mm_T.mask [true, false, true, true] ?_
  obtain ⟨o373, eo373, e⟩ := mm_bind e
  refine tlX12_hotterOf_L90 d _ n 0 0 (mm_up (mm_up (mm_up (mm_up (mm_up (mm_up (mm_up I 71 0 (I 85 (4 + x1).toNatClampNeg)) 71 1 (I 85 x1.toNatClampNeg)) 71 2 o339) 71 3 (I 80 x1.toNatClampNeg)) 71 4 (I 85 (16 + x1).toNatClampNeg)) 71 5 (I 85 (8 + x1).toNatClampNeg)) 70 0 1) J rv sp rr w nw o373 eo373 ?_
  refine mm_T.seg (f' := (242, [some (.ref 62), none, none, none], [(.ref 70)])) (h' := (107, o373, J, mm_rf rv sp rr w nw)) 2 rfl ?_
  refine mm_T.seg (f' := (246, [some (.ref 62), none, none, none], [(.int 99), (.int (o373 70 0))])) (h' := (107, o373, J, mm_rf rv sp rr w nw)) 3 rfl ?_
  obtain ⟨g107, hg107⟩ : ∃ z, fX12_within (o373 70 0) 99 = z := ⟨_, rfl⟩
  try rw [hg107] at e
  refine mm_T.call (t := 238) (as := [(.int (o373 70 0)), (.int 99)]) (f' := (249, [some (.ref 62), none, none, none], [])) rfl (tX12_within (d + 1) (o373 70 0) 99 o373 J rv sp rr w nw g107 hg107) (fun v h hq => ?_)
  obtain ⟨rfl, rfl⟩ := hq
  cases e
  exact mm_T.ret rfl ⟨rfl, rfl⟩
set_option maxRecDepth 100000 in
set_option maxHeartbeats 4000000 in
theorem tX12_readWater (d n : Nat) (I : Nat → Nat → Int32) (J : Nat → Nat → Int64) (rv sp rr w nw : Nat) (out : (Nat → Nat → Int32) × (Nat → Nat → Int64)) (e : fX12_readWater n I J = some out) : mm_T none (d + 4) 242 (mm_ent 242 [(.ref 62)]) (107, I, J, mm_rf rv sp rr w nw) (fun v h => v = none ∧ h = (107, out.1, out.2, mm_rf rv sp rr w nw)) := by
  unfold fX12_readWater at e
  refine mm_T.seg (f' := (1, [some (.ref 62)], [(.ref 62)])) (h' := (107, I, J, mm_rf rv sp rr w nw)) 1 rfl ?_
  obtain ⟨o374, eo374, e⟩ := mm_bind e
  refine mm_T.call (t := 214) (as := [(.ref 62)]) (f' := (4, [some (.ref 62)], [])) rfl (tX12_token (d + 2) n I J rv sp rr w nw o374 eo374) (fun v h hq => ?_)
  obtain ⟨rfl, rfl⟩ := hq
  refine mm_T.seg (f' := (9, [some (.ref 62)], [(.int 8), (.int 1), (.ref 62), (.ref 62)])) (h' := (107, o374.1, o374.2, mm_rf rv sp rr w nw)) 4 rfl ?_
  obtain ⟨o375, eo375, e⟩ := mm_bind e
  refine mm_T.call (t := 220) (as := [(.ref 62), (.int 1), (.int 8)]) (f' := (12, [some (.ref 62)], [(.ref 62)])) rfl (tX12_toldNumber (d + 1) n 1 8 o374.1 o374.2 rv sp rr w nw o375 eo375) (fun v h hq => ?_)
  obtain ⟨rfl, rfl⟩ := hq
  refine mm_T.seg (f' := (23, [some (.ref 62)], [(.int 6), (.int 1), (.long 25209), (.ref 62), (.ref 62)])) (h' := (107, (mm_up o375.2.1 62 38 o375.1), o375.2.2, mm_rf rv sp rr w nw)) 6 rfl ?_
  obtain ⟨o376, eo376, e⟩ := mm_bind e
  refine mm_T.call (t := 221) (as := [(.ref 62), (.long 25209), (.int 1), (.int 6)]) (f' := (26, [some (.ref 62)], [(.ref 62)])) rfl (tX12_told (d + 0) n 25209 1 6 (mm_up o375.2.1 62 38 o375.1) o375.2.2 rv sp rr w nw o376 eo376) (fun v h hq => ?_)
  obtain ⟨rfl, rfl⟩ := hq
  refine mm_T.seg (f' := (29, [some (.ref 62)], [])) (h' := (107, (mm_up o376.2.1 62 39 o376.1), o376.2.2, mm_rf rv sp rr w nw)) 1 rfl ?_
  cases e
  exact mm_T.ret rfl ⟨rfl, rfl⟩
set_option maxRecDepth 100000 in
set_option maxHeartbeats 4000000 in
theorem tbX12_readCell_72_J64 (d n : Nat) (y2 : Int32) (y3 : Int32) (y4 : Int32) (I : Nat → Nat → Int32) (J : Nat → Nat → Int64) (rv sp rr w nw : Nat) (out : Int32 × (Nat → Nat → Int32) × (Nat → Nat → Int64)) (e : fX12_readCell_72_J64 n y2 y3 y4 I J = some out) : mm_T none (d + 3) 243 (64, [some (.ref 62), none, some (.int y2), some (.int y3), some (.int y4)], []) (107, I, J, mm_rf rv sp rr w nw) (fun v h => v = some (.int out.1) ∧ h = (107, out.2.1, out.2.2, mm_rf rv sp rr w nw)) := by
  unfold fX12_readCell_72_J64 at e
  refine mm_T.seg (f' := (69, [some (.ref 62), none, some (.int y2), some (.int y3), some (.int y4)], [(.int y3), (.int y2), (.ref 62), (.int 8)])) (h' := (107, I, J, mm_rf rv sp rr w nw)) 4 rfl ?_
  obtain ⟨o384, eo384, e⟩ := mm_bind e
  refine mm_T.call (t := 220) (as := [(.ref 62), (.int y2), (.int y3)]) (f' := (72, [some (.ref 62), none, some (.int y2), some (.int y3), some (.int y4)], [(.int 8)])) rfl (tX12_toldNumber (d + 0) n y2 y3 I J rv sp rr w nw o384 eo384) (fun v h hq => ?_)
  obtain ⟨rfl, rfl⟩ := hq
  refine mm_T.seg (f' := (76, [some (.ref 62), none, some (.int y2), some (.int y3), some (.int y4)], [(.int ((8 * o384.1) + y4))])) (h' := (107, o384.2.1, o384.2.2, mm_rf rv sp rr w nw)) 3 rfl ?_
  cases e
  exact mm_T.ret rfl ⟨rfl, rfl⟩
set_option maxRecDepth 100000 in
set_option maxHeartbeats 4000000 in
theorem tX12_readCell_72 (d n : Nat) (x2 : Int32) (x3 : Int32) (I : Nat → Nat → Int32) (J : Nat → Nat → Int64) (rv sp rr w nw : Nat) (out : Int32 × (Nat → Nat → Int32) × (Nat → Nat → Int64)) (e : fX12_readCell_72 n x2 x3 I J = some out) : mm_T none (d + 3) 243 (mm_ent 243 [(.ref 62), (.ref 72), (.int x2), (.int x3)]) (107, I, J, mm_rf rv sp rr w nw) (fun v h => v = some (.int out.1) ∧ h = (107, out.2.1, out.2.2, mm_rf rv sp rr w nw)) := by
  unfold fX12_readCell_72 at e
  refine mm_T.seg (f' := (8, [some (.ref 62), some (.ref 72), some (.int x2), some (.int x3), none], [(.int ((I 62 38) - 1)), (.int 0), (.ref 62)])) (h' := (107, I, J, mm_rf rv sp rr w nw)) 6 rfl ?_
  obtain ⟨o380, eo380, e⟩ := mm_bind e
  refine mm_T.call (t := 220) (as := [(.ref 62), (.int 0), (.int ((I 62 38) - 1))]) (f' := (11, [some (.ref 62), some (.ref 72), some (.int x2), some (.int x3), none], [])) rfl (tX12_toldNumber (d + 0) n 0 ((I 62 38) - 1) I J rv sp rr w nw o380 eo380) (fun v h hq => ?_)
  obtain ⟨rfl, rfl⟩ := hq
  refine mm_T.seg (f' := (17, [some (.ref 62), some (.ref 72), some (.int x2), some (.int x3), some (.int o380.1)], [(.int (o380.2.1 62 2))])) (h' := (107, o380.2.1, o380.2.2, mm_rf rv sp rr w nw)) 3 rfl ?_
  refine mm_T.br (c := (o380.2.1 62 2) = 0) (a := ((20, [some (.ref 62), some (.ref 72), some (.int x2), some (.int x3), some (.int o380.1)], []), (107, o380.2.1, o380.2.2, mm_rf rv sp rr w nw))) (b := ((64, [some (.ref 62), some (.ref 72), some (.int x2), some (.int x3), some (.int o380.1)], []), (107, o380.2.1, o380.2.2, mm_rf rv sp rr w nw))) rfl (fun h381 => ?_) (fun h381 => ?_)
  · rw [if_pos h381] at e
    refine mm_T.seg (f' := (25, [some (.ref 62), some (.ref 72), some (.int x2), some (.int x3), some (.int o380.1)], [(.int 2), (.int (o380.2.1 62 6))])) (h' := (107, o380.2.1, o380.2.2, mm_rf rv sp rr w nw)) 3 rfl ?_
    refine mm_T.br (c := (o380.2.1 62 6) = 2) (a := ((28, [some (.ref 62), some (.ref 72), some (.int x2), some (.int x3), some (.int o380.1)], []), (107, o380.2.1, o380.2.2, mm_rf rv sp rr w nw))) (b := ((64, [some (.ref 62), some (.ref 72), some (.int x2), some (.int x3), some (.int o380.1)], []), (107, o380.2.1, o380.2.2, mm_rf rv sp rr w nw))) rfl (fun h382 => ?_) (fun h382 => ?_)
    · rw [if_pos h382] at e
      refine mm_T.seg (f' := (33, [some (.ref 62), some (.ref 72), some (.int x2), some (.int x3), some (.int o380.1)], [(.int x2), (.int (o380.2.1 62 8))])) (h' := (107, o380.2.1, o380.2.2, mm_rf rv sp rr w nw)) 3 rfl ?_
      refine mm_T.br (c := (o380.2.1 62 8) < x2) (a := ((64, [some (.ref 62), some (.ref 72), some (.int x2), some (.int x3), some (.int o380.1)], []), (107, o380.2.1, o380.2.2, mm_rf rv sp rr w nw))) (b := ((36, [some (.ref 62), some (.ref 72), some (.int x2), some (.int x3), some (.int o380.1)], []), (107, o380.2.1, o380.2.2, mm_rf rv sp rr w nw))) rfl (fun h383 => ?_) (fun h383 => ?_)
      · rw [if_pos h383] at e
        refine mm_T.mask [true, false, true, true, true] ?_
        exact tbX12_readCell_72_J64 d n x2 x3 o380.1 o380.2.1 o380.2.2 rv sp rr w nw out e
      · rw [if_neg h383] at e
        refine mm_T.seg (f' := (41, [some (.ref 62), some (.ref 72), some (.int x2), some (.int x3), some (.int o380.1)], [(.int x3), (.int (o380.2.1 62 8))])) (h' := (107, o380.2.1, o380.2.2, mm_rf rv sp rr w nw)) 3 rfl ?_
        refine mm_T.br (c := x3 < (o380.2.1 62 8)) (a := ((64, [some (.ref 62), some (.ref 72), some (.int x2), some (.int x3), some (.int o380.1)], []), (107, o380.2.1, o380.2.2, mm_rf rv sp rr w nw))) (b := ((44, [some (.ref 62), some (.ref 72), some (.int x2), some (.int x3), some (.int o380.1)], []), (107, o380.2.1, o380.2.2, mm_rf rv sp rr w nw))) rfl (fun h385 => ?_) (fun h385 => ?_)
        · rw [if_pos h385] at e
          refine mm_T.mask [true, false, true, true, true] ?_
          exact tbX12_readCell_72_J64 d n x2 x3 o380.1 o380.2.1 o380.2.2 rv sp rr w nw out e
        · rw [if_neg h385] at e
          refine mm_T.seg (f' := (55, [some (.ref 62), some (.ref 72), some (.int x2), some (.int x3), some (.int o380.1)], [(.int ((8 * (o380.2.1 62 8)) + o380.1)), (.ref 72)])) (h' := (107, o380.2.1, o380.2.2, mm_rf rv sp rr w nw)) 7 rfl ?_
          by_cases h386 : ((8 * (o380.2.1 62 8)) + o380.1) < 0 ∨ 56 ≤ ((8 * (o380.2.1 62 8)) + o380.1).toNatClampNeg
          · rw [if_pos h386] at e; cases e
          rw [if_neg h386] at e
          refine mm_T.guard (c := ((8 * (o380.2.1 62 8)) + o380.1) < 0 ∨ 56 ≤ ((8 * (o380.2.1 62 8)) + o380.1).toNatClampNeg) (y := ((56, [some (.ref 62), some (.ref 72), some (.int x2), some (.int x3), some (.int o380.1)], [(.int (o380.2.1 72 ((8 * (o380.2.1 62 8)) + o380.1).toNatClampNeg))]), (107, o380.2.1, o380.2.2, mm_rf rv sp rr w nw))) (mm_gen (P := fun z => mm_stp none 243 (55, [some (.ref 62), some (.ref 72), some (.int x2), some (.int x3), some (.int o380.1)], [(.int z), (.ref 72)]) (107, o380.2.1, o380.2.2, mm_rf rv sp rr w nw) = if z < 0 ∨ 56 ≤ z.toNatClampNeg then none else some (.inl ((56, [some (.ref 62), some (.ref 72), some (.int x2), some (.int x3), some (.int o380.1)], [(.int (o380.2.1 72 z.toNatClampNeg))]), (107, o380.2.1, o380.2.2, mm_rf rv sp rr w nw)))) ((8 * (o380.2.1 62 8)) + o380.1) (fun z => rfl)) h386 ?_
          refine mm_T.br (c := (o380.2.1 72 ((8 * (o380.2.1 62 8)) + o380.1).toNatClampNeg) < 0) (a := ((64, [some (.ref 62), some (.ref 72), some (.int x2), some (.int x3), some (.int o380.1)], []), (107, o380.2.1, o380.2.2, mm_rf rv sp rr w nw))) (b := ((59, [some (.ref 62), some (.ref 72), some (.int x2), some (.int x3), some (.int o380.1)], []), (107, o380.2.1, o380.2.2, mm_rf rv sp rr w nw))) rfl (fun h387 => ?_) (fun h387 => ?_)
          · rw [if_pos h387] at e
            refine mm_T.mask [true, false, true, true, true] ?_
            exact tbX12_readCell_72_J64 d n x2 x3 o380.1 o380.2.1 o380.2.2 rv sp rr w nw out e
          · rw [if_neg h387] at e
            refine mm_T.seg (f' := (61, [some (.ref 62), some (.ref 72), some (.int x2), some (.int x3), some (.int o380.1)], [(.int 3), (.ref 62)])) (h' := (107, o380.2.1, o380.2.2, mm_rf rv sp rr w nw)) 2 rfl ?_
            obtain ⟨g108, hg108⟩ : ∃ z, fX12_wrong 3 o380.2.1 = z := ⟨_, rfl⟩
            try rw [hg108] at e
            refine mm_T.call (t := 215) (as := [(.ref 62), (.int 3)]) (f' := (64, [some (.ref 62), some (.ref 72), some (.int x2), some (.int x3), some (.int o380.1)], [])) rfl (tX12_wrong (d + 2) 3 o380.2.1 o380.2.2 rv sp rr w nw g108 hg108) (fun v h hq => ?_)
            obtain ⟨rfl, rfl⟩ := hq
            refine mm_T.mask [true, false, true, true, true] ?_
            exact tbX12_readCell_72_J64 d n x2 x3 o380.1 g108 o380.2.2 rv sp rr w nw out e
    · rw [if_neg h382] at e
      refine mm_T.mask [true, false, true, true, true] ?_
      exact tbX12_readCell_72_J64 d n x2 x3 o380.1 o380.2.1 o380.2.2 rv sp rr w nw out e
  · rw [if_neg h381] at e
    refine mm_T.mask [true, false, true, true, true] ?_
    exact tbX12_readCell_72_J64 d n x2 x3 o380.1 o380.2.1 o380.2.2 rv sp rr w nw out e
set_option maxRecDepth 100000 in
set_option maxHeartbeats 4000000 in
theorem tX12_readCurrent (d n : Nat) (I : Nat → Nat → Int32) (J : Nat → Nat → Int64) (rv sp rr w nw : Nat) (out : (Nat → Nat → Int32) × (Nat → Nat → Int64)) (e : fX12_readCurrent n I J = some out) : mm_T none (d + 4) 244 (mm_ent 244 [(.ref 62)]) (107, I, J, mm_rf rv sp rr w nw) (fun v h => v = none ∧ h = (107, out.1, out.2, mm_rf rv sp rr w nw)) := by
  unfold fX12_readCurrent at e
  refine mm_T.seg (f' := (1, [some (.ref 62), none, none], [(.ref 62)])) (h' := (107, I, J, mm_rf rv sp rr w nw)) 1 rfl ?_
  obtain ⟨o377, eo377, e⟩ := mm_bind e
  refine mm_T.call (t := 214) (as := [(.ref 62)]) (f' := (4, [some (.ref 62), none, none], [])) rfl (tX12_token (d + 2) n I J rv sp rr w nw o377 eo377) (fun v h hq => ?_)
  obtain ⟨rfl, rfl⟩ := hq
  refine mm_T.seg (f' := (8, [some (.ref 62), none, none], [(.int 7), (.int 0), (.ref 62)])) (h' := (107, o377.1, o377.2, mm_rf rv sp rr w nw)) 3 rfl ?_
  obtain ⟨o378, eo378, e⟩ := mm_bind e
  refine mm_T.call (t := 220) (as := [(.ref 62), (.int 0), (.int 7)]) (f' := (11, [some (.ref 62), none, none], [])) rfl (tX12_toldNumber (d + 1) n 0 7 o377.1 o377.2 rv sp rr w nw o378 eo378) (fun v h hq => ?_)
  obtain ⟨rfl, rfl⟩ := hq
  refine mm_T.seg (f' := (16, [some (.ref 62), some (.int o378.1), none], [(.long 24948), (.ref 62)])) (h' := (107, o378.2.1, o378.2.2, mm_rf rv sp rr w nw)) 3 rfl ?_
  obtain ⟨o379, eo379, e⟩ := mm_bind e
  refine mm_T.call (t := 219) (as := [(.ref 62), (.long 24948)]) (f' := (19, [some (.ref 62), some (.int o378.1), none], [])) rfl (tX12_want (d + 1) n 24948 o378.2.1 o378.2.2 rv sp rr w nw o379 eo379) (fun v h hq => ?_)
  obtain ⟨rfl, rfl⟩ := hq
  refine mm_T.seg (f' := (24, [some (.ref 62), some (.int o378.1), none], [(.ref 72), (.ref 62)])) (h' := (107, o379.1, o379.2, mm_rf rv sp rr w nw)) 3 rfl ?_
  refine mm_T.seg (f' := (31, [some (.ref 62), some (.int o378.1), none], [(.int ((o379.1 62 39) - 1)), (.int 0), (.ref 72), (.ref 62)])) (h' := (107, o379.1, o379.2, mm_rf rv sp rr w nw)) 5 rfl ?_
  obtain ⟨o388, eo388, e⟩ := mm_bind e
  refine mm_T.call (t := 243) (as := [(.ref 62), (.ref 72), (.int 0), (.int ((o379.1 62 39) - 1))]) (f' := (34, [some (.ref 62), some (.int o378.1), none], [])) rfl (tX12_readCell_72 (d + 0) n 0 ((o379.1 62 39) - 1) o379.1 o379.2 rv sp rr w nw o388 eo388) (fun v h hq => ?_)
  obtain ⟨rfl, rfl⟩ := hq
  refine mm_T.seg (f' := (39, [some (.ref 62), some (.int o378.1), some (.int o388.1)], [(.int (o388.2.1 62 2))])) (h' := (107, o388.2.1, o388.2.2, mm_rf rv sp rr w nw)) 3 rfl ?_
  refine mm_T.br (c := 0 < (o388.2.1 62 2)) (a := ((42, [some (.ref 62), some (.int o378.1), some (.int o388.1)], []), (107, o388.2.1, o388.2.2, mm_rf rv sp rr w nw))) (b := ((43, [some (.ref 62), some (.int o378.1), some (.int o388.1)], []), (107, o388.2.1, o388.2.2, mm_rf rv sp rr w nw))) rfl (fun h389 => ?_) (fun h389 => ?_)
  · rw [if_pos h389] at e
    cases e
    exact mm_T.ret rfl ⟨rfl, rfl⟩
  · rw [if_neg h389] at e
    refine mm_T.seg (f' := (47, [some (.ref 62), some (.int o378.1), some (.int o388.1)], [(.ref 72)])) (h' := (107, o388.2.1, o388.2.2, mm_rf rv sp rr w nw)) 2 rfl ?_
    refine mm_T.seg (f' := (49, [some (.ref 62), some (.int o378.1), some (.int o388.1)], [(.int o378.1), (.int o388.1), (.ref 72)])) (h' := (107, o388.2.1, o388.2.2, mm_rf rv sp rr w nw)) 2 rfl ?_
    by_cases h390 : o388.1 < 0 ∨ 56 ≤ o388.1.toNatClampNeg
    · rw [if_pos h390] at e; cases e
    rw [if_neg h390] at e
    refine mm_T.guard (y := ((50, [some (.ref 62), some (.int o378.1), some (.int o388.1)], []), (107, (mm_up o388.2.1 72 o388.1.toNatClampNeg o378.1), o388.2.2, mm_rf rv sp rr w nw))) rfl h390 ?_
    refine mm_T.seg (f' := (60, [some (.ref 62), some (.int o378.1), some (.int o388.1)], [])) (h' := (107, (mm_up (mm_up o388.2.1 72 o388.1.toNatClampNeg o378.1) 62 40 ((o388.2.1 62 40) + 1)), o388.2.2, mm_rf rv sp rr w nw)) 6 rfl ?_
    cases e
    exact mm_T.ret rfl ⟨rfl, rfl⟩
set_option maxRecDepth 100000 in
set_option maxHeartbeats 4000000 in
theorem tbX12_readCell_73_J64 (d n : Nat) (y2 : Int32) (y3 : Int32) (y4 : Int32) (I : Nat → Nat → Int32) (J : Nat → Nat → Int64) (rv sp rr w nw : Nat) (out : Int32 × (Nat → Nat → Int32) × (Nat → Nat → Int64)) (e : fX12_readCell_73_J64 n y2 y3 y4 I J = some out) : mm_T none (d + 3) 243 (64, [some (.ref 62), none, some (.int y2), some (.int y3), some (.int y4)], []) (107, I, J, mm_rf rv sp rr w nw) (fun v h => v = some (.int out.1) ∧ h = (107, out.2.1, out.2.2, mm_rf rv sp rr w nw)) := by
  unfold fX12_readCell_73_J64 at e
  refine mm_T.seg (f' := (69, [some (.ref 62), none, some (.int y2), some (.int y3), some (.int y4)], [(.int y3), (.int y2), (.ref 62), (.int 8)])) (h' := (107, I, J, mm_rf rv sp rr w nw)) 4 rfl ?_
  obtain ⟨o396, eo396, e⟩ := mm_bind e
  refine mm_T.call (t := 220) (as := [(.ref 62), (.int y2), (.int y3)]) (f' := (72, [some (.ref 62), none, some (.int y2), some (.int y3), some (.int y4)], [(.int 8)])) rfl (tX12_toldNumber (d + 0) n y2 y3 I J rv sp rr w nw o396 eo396) (fun v h hq => ?_)
  obtain ⟨rfl, rfl⟩ := hq
  refine mm_T.seg (f' := (76, [some (.ref 62), none, some (.int y2), some (.int y3), some (.int y4)], [(.int ((8 * o396.1) + y4))])) (h' := (107, o396.2.1, o396.2.2, mm_rf rv sp rr w nw)) 3 rfl ?_
  cases e
  exact mm_T.ret rfl ⟨rfl, rfl⟩
set_option maxRecDepth 100000 in
set_option maxHeartbeats 4000000 in
theorem tX12_readCell_73 (d n : Nat) (x2 : Int32) (x3 : Int32) (I : Nat → Nat → Int32) (J : Nat → Nat → Int64) (rv sp rr w nw : Nat) (out : Int32 × (Nat → Nat → Int32) × (Nat → Nat → Int64)) (e : fX12_readCell_73 n x2 x3 I J = some out) : mm_T none (d + 3) 243 (mm_ent 243 [(.ref 62), (.ref 73), (.int x2), (.int x3)]) (107, I, J, mm_rf rv sp rr w nw) (fun v h => v = some (.int out.1) ∧ h = (107, out.2.1, out.2.2, mm_rf rv sp rr w nw)) := by
  unfold fX12_readCell_73 at e
  refine mm_T.seg (f' := (8, [some (.ref 62), some (.ref 73), some (.int x2), some (.int x3), none], [(.int ((I 62 38) - 1)), (.int 0), (.ref 62)])) (h' := (107, I, J, mm_rf rv sp rr w nw)) 6 rfl ?_
  obtain ⟨o392, eo392, e⟩ := mm_bind e
  refine mm_T.call (t := 220) (as := [(.ref 62), (.int 0), (.int ((I 62 38) - 1))]) (f' := (11, [some (.ref 62), some (.ref 73), some (.int x2), some (.int x3), none], [])) rfl (tX12_toldNumber (d + 0) n 0 ((I 62 38) - 1) I J rv sp rr w nw o392 eo392) (fun v h hq => ?_)
  obtain ⟨rfl, rfl⟩ := hq
  refine mm_T.seg (f' := (17, [some (.ref 62), some (.ref 73), some (.int x2), some (.int x3), some (.int o392.1)], [(.int (o392.2.1 62 2))])) (h' := (107, o392.2.1, o392.2.2, mm_rf rv sp rr w nw)) 3 rfl ?_
  refine mm_T.br (c := (o392.2.1 62 2) = 0) (a := ((20, [some (.ref 62), some (.ref 73), some (.int x2), some (.int x3), some (.int o392.1)], []), (107, o392.2.1, o392.2.2, mm_rf rv sp rr w nw))) (b := ((64, [some (.ref 62), some (.ref 73), some (.int x2), some (.int x3), some (.int o392.1)], []), (107, o392.2.1, o392.2.2, mm_rf rv sp rr w nw))) rfl (fun h393 => ?_) (fun h393 => ?_)
  · rw [if_pos h393] at e
    refine mm_T.seg (f' := (25, [some (.ref 62), some (.ref 73), some (.int x2), some (.int x3), some (.int o392.1)], [(.int 2), (.int (o392.2.1 62 6))])) (h' := (107, o392.2.1, o392.2.2, mm_rf rv sp rr w nw)) 3 rfl ?_
    refine mm_T.br (c := (o392.2.1 62 6) = 2) (a := ((28, [some (.ref 62), some (.ref 73), some (.int x2), some (.int x3), some (.int o392.1)], []), (107, o392.2.1, o392.2.2, mm_rf rv sp rr w nw))) (b := ((64, [some (.ref 62), some (.ref 73), some (.int x2), some (.int x3), some (.int o392.1)], []), (107, o392.2.1, o392.2.2, mm_rf rv sp rr w nw))) rfl (fun h394 => ?_) (fun h394 => ?_)
    · rw [if_pos h394] at e
      refine mm_T.seg (f' := (33, [some (.ref 62), some (.ref 73), some (.int x2), some (.int x3), some (.int o392.1)], [(.int x2), (.int (o392.2.1 62 8))])) (h' := (107, o392.2.1, o392.2.2, mm_rf rv sp rr w nw)) 3 rfl ?_
      refine mm_T.br (c := (o392.2.1 62 8) < x2) (a := ((64, [some (.ref 62), some (.ref 73), some (.int x2), some (.int x3), some (.int o392.1)], []), (107, o392.2.1, o392.2.2, mm_rf rv sp rr w nw))) (b := ((36, [some (.ref 62), some (.ref 73), some (.int x2), some (.int x3), some (.int o392.1)], []), (107, o392.2.1, o392.2.2, mm_rf rv sp rr w nw))) rfl (fun h395 => ?_) (fun h395 => ?_)
      · rw [if_pos h395] at e
        refine mm_T.mask [true, false, true, true, true] ?_
        exact tbX12_readCell_73_J64 d n x2 x3 o392.1 o392.2.1 o392.2.2 rv sp rr w nw out e
      · rw [if_neg h395] at e
        refine mm_T.seg (f' := (41, [some (.ref 62), some (.ref 73), some (.int x2), some (.int x3), some (.int o392.1)], [(.int x3), (.int (o392.2.1 62 8))])) (h' := (107, o392.2.1, o392.2.2, mm_rf rv sp rr w nw)) 3 rfl ?_
        refine mm_T.br (c := x3 < (o392.2.1 62 8)) (a := ((64, [some (.ref 62), some (.ref 73), some (.int x2), some (.int x3), some (.int o392.1)], []), (107, o392.2.1, o392.2.2, mm_rf rv sp rr w nw))) (b := ((44, [some (.ref 62), some (.ref 73), some (.int x2), some (.int x3), some (.int o392.1)], []), (107, o392.2.1, o392.2.2, mm_rf rv sp rr w nw))) rfl (fun h397 => ?_) (fun h397 => ?_)
        · rw [if_pos h397] at e
          refine mm_T.mask [true, false, true, true, true] ?_
          exact tbX12_readCell_73_J64 d n x2 x3 o392.1 o392.2.1 o392.2.2 rv sp rr w nw out e
        · rw [if_neg h397] at e
          refine mm_T.seg (f' := (55, [some (.ref 62), some (.ref 73), some (.int x2), some (.int x3), some (.int o392.1)], [(.int ((8 * (o392.2.1 62 8)) + o392.1)), (.ref 73)])) (h' := (107, o392.2.1, o392.2.2, mm_rf rv sp rr w nw)) 7 rfl ?_
          by_cases h398 : ((8 * (o392.2.1 62 8)) + o392.1) < 0 ∨ 56 ≤ ((8 * (o392.2.1 62 8)) + o392.1).toNatClampNeg
          · rw [if_pos h398] at e; cases e
          rw [if_neg h398] at e
          refine mm_T.guard (c := ((8 * (o392.2.1 62 8)) + o392.1) < 0 ∨ 56 ≤ ((8 * (o392.2.1 62 8)) + o392.1).toNatClampNeg) (y := ((56, [some (.ref 62), some (.ref 73), some (.int x2), some (.int x3), some (.int o392.1)], [(.int (o392.2.1 73 ((8 * (o392.2.1 62 8)) + o392.1).toNatClampNeg))]), (107, o392.2.1, o392.2.2, mm_rf rv sp rr w nw))) (mm_gen (P := fun z => mm_stp none 243 (55, [some (.ref 62), some (.ref 73), some (.int x2), some (.int x3), some (.int o392.1)], [(.int z), (.ref 73)]) (107, o392.2.1, o392.2.2, mm_rf rv sp rr w nw) = if z < 0 ∨ 56 ≤ z.toNatClampNeg then none else some (.inl ((56, [some (.ref 62), some (.ref 73), some (.int x2), some (.int x3), some (.int o392.1)], [(.int (o392.2.1 73 z.toNatClampNeg))]), (107, o392.2.1, o392.2.2, mm_rf rv sp rr w nw)))) ((8 * (o392.2.1 62 8)) + o392.1) (fun z => rfl)) h398 ?_
          refine mm_T.br (c := (o392.2.1 73 ((8 * (o392.2.1 62 8)) + o392.1).toNatClampNeg) < 0) (a := ((64, [some (.ref 62), some (.ref 73), some (.int x2), some (.int x3), some (.int o392.1)], []), (107, o392.2.1, o392.2.2, mm_rf rv sp rr w nw))) (b := ((59, [some (.ref 62), some (.ref 73), some (.int x2), some (.int x3), some (.int o392.1)], []), (107, o392.2.1, o392.2.2, mm_rf rv sp rr w nw))) rfl (fun h399 => ?_) (fun h399 => ?_)
          · rw [if_pos h399] at e
            refine mm_T.mask [true, false, true, true, true] ?_
            exact tbX12_readCell_73_J64 d n x2 x3 o392.1 o392.2.1 o392.2.2 rv sp rr w nw out e
          · rw [if_neg h399] at e
            refine mm_T.seg (f' := (61, [some (.ref 62), some (.ref 73), some (.int x2), some (.int x3), some (.int o392.1)], [(.int 3), (.ref 62)])) (h' := (107, o392.2.1, o392.2.2, mm_rf rv sp rr w nw)) 2 rfl ?_
            obtain ⟨g109, hg109⟩ : ∃ z, fX12_wrong 3 o392.2.1 = z := ⟨_, rfl⟩
            try rw [hg109] at e
            refine mm_T.call (t := 215) (as := [(.ref 62), (.int 3)]) (f' := (64, [some (.ref 62), some (.ref 73), some (.int x2), some (.int x3), some (.int o392.1)], [])) rfl (tX12_wrong (d + 2) 3 o392.2.1 o392.2.2 rv sp rr w nw g109 hg109) (fun v h hq => ?_)
            obtain ⟨rfl, rfl⟩ := hq
            refine mm_T.mask [true, false, true, true, true] ?_
            exact tbX12_readCell_73_J64 d n x2 x3 o392.1 g109 o392.2.2 rv sp rr w nw out e
    · rw [if_neg h394] at e
      refine mm_T.mask [true, false, true, true, true] ?_
      exact tbX12_readCell_73_J64 d n x2 x3 o392.1 o392.2.1 o392.2.2 rv sp rr w nw out e
  · rw [if_neg h393] at e
    refine mm_T.mask [true, false, true, true, true] ?_
    exact tbX12_readCell_73_J64 d n x2 x3 o392.1 o392.2.1 o392.2.2 rv sp rr w nw out e
set_option maxRecDepth 100000 in
set_option maxHeartbeats 4000000 in
theorem tX12_readIron (d n : Nat) (I : Nat → Nat → Int32) (J : Nat → Nat → Int64) (rv sp rr w nw : Nat) (out : (Nat → Nat → Int32) × (Nat → Nat → Int64)) (e : fX12_readIron n I J = some out) : mm_T none (d + 4) 245 (mm_ent 245 [(.ref 62)]) (107, I, J, mm_rf rv sp rr w nw) (fun v h => v = none ∧ h = (107, out.1, out.2, mm_rf rv sp rr w nw)) := by
  unfold fX12_readIron at e
  refine mm_T.seg (f' := (1, [some (.ref 62), none], [(.ref 62)])) (h' := (107, I, J, mm_rf rv sp rr w nw)) 1 rfl ?_
  obtain ⟨o391, eo391, e⟩ := mm_bind e
  refine mm_T.call (t := 214) (as := [(.ref 62)]) (f' := (4, [some (.ref 62), none], [])) rfl (tX12_token (d + 2) n I J rv sp rr w nw o391 eo391) (fun v h hq => ?_)
  obtain ⟨rfl, rfl⟩ := hq
  refine mm_T.seg (f' := (9, [some (.ref 62), none], [(.ref 73), (.ref 62)])) (h' := (107, o391.1, o391.2, mm_rf rv sp rr w nw)) 3 rfl ?_
  refine mm_T.seg (f' := (16, [some (.ref 62), none], [(.int ((o391.1 62 39) - 1)), (.int 1), (.ref 73), (.ref 62)])) (h' := (107, o391.1, o391.2, mm_rf rv sp rr w nw)) 5 rfl ?_
  obtain ⟨o400, eo400, e⟩ := mm_bind e
  refine mm_T.call (t := 243) (as := [(.ref 62), (.ref 73), (.int 1), (.int ((o391.1 62 39) - 1))]) (f' := (19, [some (.ref 62), none], [])) rfl (tX12_readCell_73 (d + 0) n 1 ((o391.1 62 39) - 1) o391.1 o391.2 rv sp rr w nw o400 eo400) (fun v h hq => ?_)
  obtain ⟨rfl, rfl⟩ := hq
  refine mm_T.seg (f' := (24, [some (.ref 62), some (.int o400.1)], [(.int (o400.2.1 62 2))])) (h' := (107, o400.2.1, o400.2.2, mm_rf rv sp rr w nw)) 3 rfl ?_
  refine mm_T.br (c := 0 < (o400.2.1 62 2)) (a := ((27, [some (.ref 62), some (.int o400.1)], []), (107, o400.2.1, o400.2.2, mm_rf rv sp rr w nw))) (b := ((28, [some (.ref 62), some (.int o400.1)], []), (107, o400.2.1, o400.2.2, mm_rf rv sp rr w nw))) rfl (fun h401 => ?_) (fun h401 => ?_)
  · rw [if_pos h401] at e
    cases e
    exact mm_T.ret rfl ⟨rfl, rfl⟩
  · rw [if_neg h401] at e
    refine mm_T.seg (f' := (32, [some (.ref 62), some (.int o400.1)], [(.ref 73)])) (h' := (107, o400.2.1, o400.2.2, mm_rf rv sp rr w nw)) 2 rfl ?_
    refine mm_T.seg (f' := (34, [some (.ref 62), some (.int o400.1)], [(.int 1), (.int o400.1), (.ref 73)])) (h' := (107, o400.2.1, o400.2.2, mm_rf rv sp rr w nw)) 2 rfl ?_
    by_cases h402 : o400.1 < 0 ∨ 56 ≤ o400.1.toNatClampNeg
    · rw [if_pos h402] at e; cases e
    rw [if_neg h402] at e
    refine mm_T.guard (y := ((35, [some (.ref 62), some (.int o400.1)], []), (107, (mm_up o400.2.1 73 o400.1.toNatClampNeg 1), o400.2.2, mm_rf rv sp rr w nw))) rfl h402 ?_
    refine mm_T.seg (f' := (45, [some (.ref 62), some (.int o400.1)], [])) (h' := (107, (mm_up (mm_up o400.2.1 73 o400.1.toNatClampNeg 1) 62 41 ((o400.2.1 62 41) + 1)), o400.2.2, mm_rf rv sp rr w nw)) 6 rfl ?_
    cases e
    exact mm_T.ret rfl ⟨rfl, rfl⟩
set_option maxRecDepth 100000 in
set_option maxHeartbeats 4000000 in
theorem tbX12_readBoard_J87 (d : Nat) (u0 : Int32) (u1 : Int32) (I : Nat → Nat → Int32) (J : Nat → Nat → Int64) (rv sp rr w nw : Nat) (out : (Nat → Nat → Int32) × (Nat → Nat → Int64)) (e : fX12_readBoard_J87 u0 u1 I J = some out) : mm_T none (d + 4) 246 (87, [some (.ref 62), none], [(.int u0), (.int u1), (.ref 76)]) (107, I, J, mm_rf rv sp rr w nw) (fun v h => v = none ∧ h = (107, out.1, out.2, mm_rf rv sp rr w nw)) := by
  unfold fX12_readBoard_J87 at e
  by_cases h410 : u1 < 0 ∨ 4 ≤ u1.toNatClampNeg
  · rw [if_pos h410] at e; cases e
  rw [if_neg h410] at e
  refine mm_T.guard (y := ((88, [some (.ref 62), none], []), (107, (mm_up I 76 u1.toNatClampNeg u0), J, mm_rf rv sp rr w nw))) rfl h410 ?_
  refine mm_T.seg (f' := (92, [some (.ref 62), none], [(.int (I 62 2))])) (h' := (107, (mm_up I 76 u1.toNatClampNeg u0), J, mm_rf rv sp rr w nw)) 2 rfl ?_
  refine mm_T.br (c := (I 62 2) = 0) (a := ((95, [some (.ref 62), none], []), (107, (mm_up I 76 u1.toNatClampNeg u0), J, mm_rf rv sp rr w nw))) (b := ((105, [some (.ref 62), none], []), (107, (mm_up I 76 u1.toNatClampNeg u0), J, mm_rf rv sp rr w nw))) rfl (fun h411 => ?_) (fun h411 => ?_)
  · rw [if_pos h411] at e
    refine mm_T.seg (f' := (105, [some (.ref 62), none], [])) (h' := (107, (mm_up (mm_up I 76 u1.toNatClampNeg u0) 62 42 ((I 62 42) + 1)), J, mm_rf rv sp rr w nw)) 6 rfl ?_
    cases e
    exact mm_T.ret rfl ⟨rfl, rfl⟩
  · rw [if_neg h411] at e
    cases e
    exact mm_T.ret rfl ⟨rfl, rfl⟩
set_option maxRecDepth 100000 in
set_option maxHeartbeats 4000000 in
theorem tbX12_readBoard_J85 (d : Nat) (u0 : Int32) (I : Nat → Nat → Int32) (J : Nat → Nat → Int64) (rv sp rr w nw : Nat) (out : (Nat → Nat → Int32) × (Nat → Nat → Int64)) (e : fX12_readBoard_J85 u0 I J = some out) : mm_T none (d + 4) 246 (85, [some (.ref 62), none], [(.int u0), (.ref 76)]) (107, I, J, mm_rf rv sp rr w nw) (fun v h => v = none ∧ h = (107, out.1, out.2, mm_rf rv sp rr w nw)) := by
  unfold fX12_readBoard_J85 at e
  refine mm_T.seg (f' := (87, [some (.ref 62), none], [(.int 20), (.int u0), (.ref 76)])) (h' := (107, I, J, mm_rf rv sp rr w nw)) 1 rfl ?_
  refine mm_T.mask [true, false] ?_
  exact tbX12_readBoard_J87 d 20 u0 I J rv sp rr w nw out e
set_option maxRecDepth 100000 in
set_option maxHeartbeats 4000000 in
theorem tX12_readBoard (d n : Nat) (I : Nat → Nat → Int32) (J : Nat → Nat → Int64) (rv sp rr w nw : Nat) (out : (Nat → Nat → Int32) × (Nat → Nat → Int64)) (e : fX12_readBoard n I J = some out) : mm_T none (d + 4) 246 (mm_ent 246 [(.ref 62)]) (107, I, J, mm_rf rv sp rr w nw) (fun v h => v = none ∧ h = (107, out.1, out.2, mm_rf rv sp rr w nw)) := by
  unfold fX12_readBoard at e
  refine mm_T.seg (f' := (6, [some (.ref 62), none], [(.int (I 62 42)), (.int 0), (.ref 62)])) (h' := (107, I, J, mm_rf rv sp rr w nw)) 4 rfl ?_
  obtain ⟨o403, eo403, e⟩ := mm_bind e
  refine mm_T.call (t := 222) (as := [(.ref 62), (.int 0), (.int (I 62 42))]) (f' := (9, [some (.ref 62), none], [])) rfl (tX12_newName (d + 1) n 0 (I 62 42) I J rv sp rr w nw o403 eo403) (fun v h hq => ?_)
  obtain ⟨rfl, rfl⟩ := hq
  refine mm_T.seg (f' := (18, [some (.ref 62), some (.int (o403.1 62 42))], [(.ref 74)])) (h' := (107, o403.1, o403.2, mm_rf rv sp rr w nw)) 5 rfl ?_
  refine mm_T.seg (f' := (26, [some (.ref 62), some (.int (o403.1 62 42))], [(.int 99), (.int 0), (.long 2003395685), (.ref 62), (.int (o403.1 62 42)), (.ref 74)])) (h' := (107, o403.1, o403.2, mm_rf rv sp rr w nw)) 5 rfl ?_
  obtain ⟨o404, eo404, e⟩ := mm_bind e
  refine mm_T.call (t := 221) (as := [(.ref 62), (.long 2003395685), (.int 0), (.int 99)]) (f' := (29, [some (.ref 62), some (.int (o403.1 62 42))], [(.int (o403.1 62 42)), (.ref 74)])) rfl (tX12_told (d + 0) n 2003395685 0 99 o403.1 o403.2 rv sp rr w nw o404 eo404) (fun v h hq => ?_)
  obtain ⟨rfl, rfl⟩ := hq
  by_cases h405 : (o403.1 62 42) < 0 ∨ 4 ≤ (o403.1 62 42).toNatClampNeg
  · rw [if_pos h405] at e; cases e
  rw [if_neg h405] at e
  refine mm_T.guard (y := ((30, [some (.ref 62), some (.int (o403.1 62 42))], []), (107, (mm_up o404.2.1 74 (o403.1 62 42).toNatClampNeg o404.1), o404.2.2, mm_rf rv sp rr w nw))) rfl h405 ?_
  refine mm_T.seg (f' := (34, [some (.ref 62), some (.int (o403.1 62 42))], [(.ref 75)])) (h' := (107, (mm_up o404.2.1 74 (o403.1 62 42).toNatClampNeg o404.1), o404.2.2, mm_rf rv sp rr w nw)) 2 rfl ?_
  refine mm_T.seg (f' := (46, [some (.ref 62), some (.int (o403.1 62 42))], [(.int ((o404.2.1 62 38) - 1)), (.int 0), (.long 24948), (.ref 62), (.int (o403.1 62 42)), (.ref 75)])) (h' := (107, (mm_up o404.2.1 74 (o403.1 62 42).toNatClampNeg o404.1), o404.2.2, mm_rf rv sp rr w nw)) 8 rfl ?_
  obtain ⟨o406, eo406, e⟩ := mm_bind e
  refine mm_T.call (t := 221) (as := [(.ref 62), (.long 24948), (.int 0), (.int ((o404.2.1 62 38) - 1))]) (f' := (49, [some (.ref 62), some (.int (o403.1 62 42))], [(.int (o403.1 62 42)), (.ref 75)])) rfl (tX12_told (d + 0) n 24948 0 ((o404.2.1 62 38) - 1) (mm_up o404.2.1 74 (o403.1 62 42).toNatClampNeg o404.1) o404.2.2 rv sp rr w nw o406 eo406) (fun v h hq => ?_)
  obtain ⟨rfl, rfl⟩ := hq
  by_cases h407 : (o403.1 62 42) < 0 ∨ 4 ≤ (o403.1 62 42).toNatClampNeg
  · rw [if_pos h407] at e; cases e
  rw [if_neg h407] at e
  refine mm_T.guard (y := ((50, [some (.ref 62), some (.int (o403.1 62 42))], []), (107, (mm_up o406.2.1 75 (o403.1 62 42).toNatClampNeg o406.1), o406.2.2, mm_rf rv sp rr w nw))) rfl h407 ?_
  refine mm_T.seg (f' := (54, [some (.ref 62), some (.int (o403.1 62 42))], [(.ref 76)])) (h' := (107, (mm_up o406.2.1 75 (o403.1 62 42).toNatClampNeg o406.1), o406.2.2, mm_rf rv sp rr w nw)) 2 rfl ?_
  refine mm_T.seg (f' := (59, [some (.ref 62), some (.int (o403.1 62 42))], [(.int (o406.2.1 62 2)), (.int (o403.1 62 42)), (.ref 76)])) (h' := (107, (mm_up o406.2.1 75 (o403.1 62 42).toNatClampNeg o406.1), o406.2.2, mm_rf rv sp rr w nw)) 3 rfl ?_
  refine mm_T.br (c := (o406.2.1 62 2) = 0) (a := ((62, [some (.ref 62), some (.int (o403.1 62 42))], [(.int (o403.1 62 42)), (.ref 76)]), (107, (mm_up o406.2.1 75 (o403.1 62 42).toNatClampNeg o406.1), o406.2.2, mm_rf rv sp rr w nw))) (b := ((85, [some (.ref 62), some (.int (o403.1 62 42))], [(.int (o403.1 62 42)), (.ref 76)]), (107, (mm_up o406.2.1 75 (o403.1 62 42).toNatClampNeg o406.1), o406.2.2, mm_rf rv sp rr w nw))) rfl (fun h408 => ?_) (fun h408 => ?_)
  · rw [if_pos h408] at e
    refine mm_T.seg (f' := (66, [some (.ref 62), some (.int (o403.1 62 42))], [(.long 422607680115), (.ref 62), (.int (o403.1 62 42)), (.ref 76)])) (h' := (107, (mm_up o406.2.1 75 (o403.1 62 42).toNatClampNeg o406.1), o406.2.2, mm_rf rv sp rr w nw)) 2 rfl ?_
    obtain ⟨g110, hg110⟩ : ∃ z, fX12_isWord 422607680115 (mm_up o406.2.1 75 (o403.1 62 42).toNatClampNeg o406.1) o406.2.2 = z := ⟨_, rfl⟩
    try rw [hg110] at e
    refine mm_T.call (t := 216) (as := [(.ref 62), (.long 422607680115)]) (f' := (69, [some (.ref 62), some (.int (o403.1 62 42))], [(.int (o403.1 62 42)), (.ref 76)])) rfl (tX12_isWord (d + 3) 422607680115 (mm_up o406.2.1 75 (o403.1 62 42).toNatClampNeg o406.1) o406.2.2 rv sp rr w nw g110 hg110) (fun v h hq => ?_)
    obtain ⟨rfl, rfl⟩ := hq
    refine mm_T.br (c := g110 = 0) (a := ((85, [some (.ref 62), some (.int (o403.1 62 42))], [(.int (o403.1 62 42)), (.ref 76)]), (107, (mm_up o406.2.1 75 (o403.1 62 42).toNatClampNeg o406.1), o406.2.2, mm_rf rv sp rr w nw))) (b := ((72, [some (.ref 62), some (.int (o403.1 62 42))], [(.int (o403.1 62 42)), (.ref 76)]), (107, (mm_up o406.2.1 75 (o403.1 62 42).toNatClampNeg o406.1), o406.2.2, mm_rf rv sp rr w nw))) rfl (fun h409 => ?_) (fun h409 => ?_)
    · rw [if_pos h409] at e
      refine mm_T.mask [true, false] ?_
      exact tbX12_readBoard_J85 d (o403.1 62 42) (mm_up o406.2.1 75 (o403.1 62 42).toNatClampNeg o406.1) o406.2.2 rv sp rr w nw out e
    · rw [if_neg h409] at e
      refine mm_T.seg (f' := (79, [some (.ref 62), some (.int (o403.1 62 42))], [(.int 99), (.int 0), (.long 422607680115), (.ref 62), (.int (o403.1 62 42)), (.ref 76)])) (h' := (107, (mm_up o406.2.1 75 (o403.1 62 42).toNatClampNeg o406.1), o406.2.2, mm_rf rv sp rr w nw)) 4 rfl ?_
      obtain ⟨o412, eo412, e⟩ := mm_bind e
      refine mm_T.call (t := 221) (as := [(.ref 62), (.long 422607680115), (.int 0), (.int 99)]) (f' := (82, [some (.ref 62), some (.int (o403.1 62 42))], [(.int (o403.1 62 42)), (.ref 76)])) rfl (tX12_told (d + 0) n 422607680115 0 99 (mm_up o406.2.1 75 (o403.1 62 42).toNatClampNeg o406.1) o406.2.2 rv sp rr w nw o412 eo412) (fun v h hq => ?_)
      obtain ⟨rfl, rfl⟩ := hq
      refine mm_T.seg (f' := (87, [some (.ref 62), some (.int (o403.1 62 42))], [(.int o412.1), (.int (o403.1 62 42)), (.ref 76)])) (h' := (107, o412.2.1, o412.2.2, mm_rf rv sp rr w nw)) 1 rfl ?_
      refine mm_T.mask [true, false] ?_
      exact tbX12_readBoard_J87 d o412.1 (o403.1 62 42) o412.2.1 o412.2.2 rv sp rr w nw out e
  · rw [if_neg h408] at e
    refine mm_T.mask [true, false] ?_
    exact tbX12_readBoard_J85 d (o403.1 62 42) (mm_up o406.2.1 75 (o403.1 62 42).toNatClampNeg o406.1) o406.2.2 rv sp rr w nw out e
set_option maxRecDepth 100000 in
set_option maxHeartbeats 4000000 in
theorem tX12_readLoad (d n : Nat) (I : Nat → Nat → Int32) (J : Nat → Nat → Int64) (rv sp rr w nw : Nat) (out : (Nat → Nat → Int32) × (Nat → Nat → Int64)) (e : fX12_readLoad n I J = some out) : mm_T none (d + 4) 247 (mm_ent 247 [(.ref 62)]) (107, I, J, mm_rf rv sp rr w nw) (fun v h => v = none ∧ h = (107, out.1, out.2, mm_rf rv sp rr w nw)) := by
  unfold fX12_readLoad at e
  refine mm_T.seg (f' := (6, [some (.ref 62)], [(.int (I 62 43)), (.int 4), (.ref 62)])) (h' := (107, I, J, mm_rf rv sp rr w nw)) 4 rfl ?_
  obtain ⟨o413, eo413, e⟩ := mm_bind e
  refine mm_T.call (t := 222) (as := [(.ref 62), (.int 4), (.int (I 62 43))]) (f' := (9, [some (.ref 62)], [])) rfl (tX12_newName (d + 1) n 4 (I 62 43) I J rv sp rr w nw o413 eo413) (fun v h hq => ?_)
  obtain ⟨rfl, rfl⟩ := hq
  refine mm_T.seg (f' := (13, [some (.ref 62)], [(.ref 77)])) (h' := (107, o413.1, o413.2, mm_rf rv sp rr w nw)) 2 rfl ?_
  refine mm_T.seg (f' := (24, [some (.ref 62)], [(.int 99), (.int 0), (.long 2003395685), (.ref 62), (.int (o413.1 62 43)), (.ref 77)])) (h' := (107, o413.1, o413.2, mm_rf rv sp rr w nw)) 6 rfl ?_
  obtain ⟨o414, eo414, e⟩ := mm_bind e
  refine mm_T.call (t := 221) (as := [(.ref 62), (.long 2003395685), (.int 0), (.int 99)]) (f' := (27, [some (.ref 62)], [(.int (o413.1 62 43)), (.ref 77)])) rfl (tX12_told (d + 0) n 2003395685 0 99 o413.1 o413.2 rv sp rr w nw o414 eo414) (fun v h hq => ?_)
  obtain ⟨rfl, rfl⟩ := hq
  by_cases h415 : (o413.1 62 43) < 0 ∨ 7 ≤ (o413.1 62 43).toNatClampNeg
  · rw [if_pos h415] at e; cases e
  rw [if_neg h415] at e
  refine mm_T.guard (y := ((28, [some (.ref 62)], []), (107, (mm_up o414.2.1 77 (o413.1 62 43).toNatClampNeg o414.1), o414.2.2, mm_rf rv sp rr w nw))) rfl h415 ?_
  refine mm_T.seg (f' := (32, [some (.ref 62)], [(.int (o414.2.1 62 2))])) (h' := (107, (mm_up o414.2.1 77 (o413.1 62 43).toNatClampNeg o414.1), o414.2.2, mm_rf rv sp rr w nw)) 2 rfl ?_
  refine mm_T.br (c := (o414.2.1 62 2) = 0) (a := ((35, [some (.ref 62)], []), (107, (mm_up o414.2.1 77 (o413.1 62 43).toNatClampNeg o414.1), o414.2.2, mm_rf rv sp rr w nw))) (b := ((45, [some (.ref 62)], []), (107, (mm_up o414.2.1 77 (o413.1 62 43).toNatClampNeg o414.1), o414.2.2, mm_rf rv sp rr w nw))) rfl (fun h416 => ?_) (fun h416 => ?_)
  · rw [if_pos h416] at e
    refine mm_T.seg (f' := (45, [some (.ref 62)], [])) (h' := (107, (mm_up (mm_up o414.2.1 77 (o413.1 62 43).toNatClampNeg o414.1) 62 43 ((o414.2.1 62 43) + 1)), o414.2.2, mm_rf rv sp rr w nw)) 6 rfl ?_
    cases e
    exact mm_T.ret rfl ⟨rfl, rfl⟩
  · rw [if_neg h416] at e
    cases e
    exact mm_T.ret rfl ⟨rfl, rfl⟩
set_option maxRecDepth 100000 in
set_option maxHeartbeats 4000000 in
theorem tbX12_readLine_J235 (d n : Nat) (I : Nat → Nat → Int32) (J : Nat → Nat → Int64) (rv sp rr w nw : Nat) (out : (Nat → Nat → Int32) × (Nat → Nat → Int64)) (e : fX12_readLine_J235 n I J = some out) : mm_T none (d + 5) 248 (235, [some (.ref 62)], []) (107, I, J, mm_rf rv sp rr w nw) (fun v h => v = none ∧ h = (107, out.1, out.2, mm_rf rv sp rr w nw)) := by
  unfold fX12_readLine_J235 at e
  refine mm_T.seg (f' := (244, [some (.ref 62)], [(.int (I 62 2))])) (h' := (107, (mm_up I 62 51 1), J, mm_rf rv sp rr w nw)) 5 rfl ?_
  refine mm_T.br (c := (I 62 2) = 0) (a := ((247, [some (.ref 62)], []), (107, (mm_up I 62 51 1), J, mm_rf rv sp rr w nw))) (b := ((261, [some (.ref 62)], []), (107, (mm_up I 62 51 1), J, mm_rf rv sp rr w nw))) rfl (fun h425 => ?_) (fun h425 => ?_)
  · rw [if_pos h425] at e
    refine mm_T.seg (f' := (253, [some (.ref 62)], [(.int 59), (.int (I 62 6))])) (h' := (107, (mm_up I 62 51 1), J, mm_rf rv sp rr w nw)) 3 rfl ?_
    refine mm_T.br (c := (I 62 6) = 59) (a := ((261, [some (.ref 62)], []), (107, (mm_up I 62 51 1), J, mm_rf rv sp rr w nw))) (b := ((256, [some (.ref 62)], []), (107, (mm_up I 62 51 1), J, mm_rf rv sp rr w nw))) rfl (fun h426 => ?_) (fun h426 => ?_)
    · rw [if_pos h426] at e
      refine mm_T.seg (f' := (265, [some (.ref 62)], [(.int (I 62 2))])) (h' := (107, (mm_up I 62 51 1), J, mm_rf rv sp rr w nw)) 2 rfl ?_
      refine mm_T.br (c := (I 62 2) = 0) (a := ((268, [some (.ref 62)], []), (107, (mm_up I 62 51 1), J, mm_rf rv sp rr w nw))) (b := ((272, [some (.ref 62)], []), (107, (mm_up I 62 51 1), J, mm_rf rv sp rr w nw))) rfl (fun h427 => ?_) (fun h427 => ?_)
      · rw [if_pos h427] at e
        refine mm_T.seg (f' := (269, [some (.ref 62)], [(.ref 62)])) (h' := (107, (mm_up I 62 51 1), J, mm_rf rv sp rr w nw)) 1 rfl ?_
        obtain ⟨o428, eo428, e⟩ := mm_bind e
        refine mm_T.call (t := 214) (as := [(.ref 62)]) (f' := (272, [some (.ref 62)], [])) rfl (tX12_token (d + 3) n (mm_up I 62 51 1) J rv sp rr w nw o428 eo428) (fun v h hq => ?_)
        obtain ⟨rfl, rfl⟩ := hq
        cases e
        exact mm_T.ret rfl ⟨rfl, rfl⟩
      · rw [if_neg h427] at e
        cases e
        exact mm_T.ret rfl ⟨rfl, rfl⟩
    · rw [if_neg h426] at e
      refine mm_T.seg (f' := (258, [some (.ref 62)], [(.int 2), (.ref 62)])) (h' := (107, (mm_up I 62 51 1), J, mm_rf rv sp rr w nw)) 2 rfl ?_
      obtain ⟨g120, hg120⟩ : ∃ z, fX12_wrong 2 (mm_up I 62 51 1) = z := ⟨_, rfl⟩
      try rw [hg120] at e
      refine mm_T.call (t := 215) (as := [(.ref 62), (.int 2)]) (f' := (261, [some (.ref 62)], [])) rfl (tX12_wrong (d + 4) 2 (mm_up I 62 51 1) J rv sp rr w nw g120 hg120) (fun v h hq => ?_)
      obtain ⟨rfl, rfl⟩ := hq
      refine mm_T.seg (f' := (265, [some (.ref 62)], [(.int (g120 62 2))])) (h' := (107, g120, J, mm_rf rv sp rr w nw)) 2 rfl ?_
      refine mm_T.br (c := (g120 62 2) = 0) (a := ((268, [some (.ref 62)], []), (107, g120, J, mm_rf rv sp rr w nw))) (b := ((272, [some (.ref 62)], []), (107, g120, J, mm_rf rv sp rr w nw))) rfl (fun h429 => ?_) (fun h429 => ?_)
      · rw [if_pos h429] at e
        refine mm_T.seg (f' := (269, [some (.ref 62)], [(.ref 62)])) (h' := (107, g120, J, mm_rf rv sp rr w nw)) 1 rfl ?_
        obtain ⟨o430, eo430, e⟩ := mm_bind e
        refine mm_T.call (t := 214) (as := [(.ref 62)]) (f' := (272, [some (.ref 62)], [])) rfl (tX12_token (d + 3) n g120 J rv sp rr w nw o430 eo430) (fun v h hq => ?_)
        obtain ⟨rfl, rfl⟩ := hq
        cases e
        exact mm_T.ret rfl ⟨rfl, rfl⟩
      · rw [if_neg h429] at e
        cases e
        exact mm_T.ret rfl ⟨rfl, rfl⟩
  · rw [if_neg h425] at e
    refine mm_T.seg (f' := (265, [some (.ref 62)], [(.int (I 62 2))])) (h' := (107, (mm_up I 62 51 1), J, mm_rf rv sp rr w nw)) 2 rfl ?_
    refine mm_T.br (c := (I 62 2) = 0) (a := ((268, [some (.ref 62)], []), (107, (mm_up I 62 51 1), J, mm_rf rv sp rr w nw))) (b := ((272, [some (.ref 62)], []), (107, (mm_up I 62 51 1), J, mm_rf rv sp rr w nw))) rfl (fun h431 => ?_) (fun h431 => ?_)
    · rw [if_pos h431] at e
      refine mm_T.seg (f' := (269, [some (.ref 62)], [(.ref 62)])) (h' := (107, (mm_up I 62 51 1), J, mm_rf rv sp rr w nw)) 1 rfl ?_
      obtain ⟨o432, eo432, e⟩ := mm_bind e
      refine mm_T.call (t := 214) (as := [(.ref 62)]) (f' := (272, [some (.ref 62)], [])) rfl (tX12_token (d + 3) n (mm_up I 62 51 1) J rv sp rr w nw o432 eo432) (fun v h hq => ?_)
      obtain ⟨rfl, rfl⟩ := hq
      cases e
      exact mm_T.ret rfl ⟨rfl, rfl⟩
    · rw [if_neg h431] at e
      cases e
      exact mm_T.ret rfl ⟨rfl, rfl⟩
set_option maxRecDepth 100000 in
set_option maxHeartbeats 4000000 in
theorem tbX12_readLine_J230 (d n : Nat) (I : Nat → Nat → Int32) (J : Nat → Nat → Int64) (rv sp rr w nw : Nat) (out : (Nat → Nat → Int32) × (Nat → Nat → Int64)) (e : fX12_readLine_J230 n I J = some out) : mm_T none (d + 5) 248 (230, [some (.ref 62)], []) (107, I, J, mm_rf rv sp rr w nw) (fun v h => v = none ∧ h = (107, out.1, out.2, mm_rf rv sp rr w nw)) := by
  unfold fX12_readLine_J230 at e
  refine mm_T.seg (f' := (232, [some (.ref 62)], [(.int 2), (.ref 62)])) (h' := (107, I, J, mm_rf rv sp rr w nw)) 2 rfl ?_
  obtain ⟨g119, hg119⟩ : ∃ z, fX12_wrong 2 I = z := ⟨_, rfl⟩
  try rw [hg119] at e
  refine mm_T.call (t := 215) (as := [(.ref 62), (.int 2)]) (f' := (235, [some (.ref 62)], [])) rfl (tX12_wrong (d + 4) 2 I J rv sp rr w nw g119 hg119) (fun v h hq => ?_)
  obtain ⟨rfl, rfl⟩ := hq
  refine mm_T.mask [true] ?_
  exact tbX12_readLine_J235 d n g119 J rv sp rr w nw out e
set_option maxRecDepth 100000 in
set_option maxHeartbeats 4000000 in
theorem tbX12_readLine_J190 (d n : Nat) (I : Nat → Nat → Int32) (J : Nat → Nat → Int64) (rv sp rr w nw : Nat) (out : (Nat → Nat → Int32) × (Nat → Nat → Int64)) (e : fX12_readLine_J190 n I J = some out) : mm_T none (d + 5) 248 (190, [some (.ref 62)], []) (107, I, J, mm_rf rv sp rr w nw) (fun v h => v = none ∧ h = (107, out.1, out.2, mm_rf rv sp rr w nw)) := by
  unfold fX12_readLine_J190 at e
  refine mm_T.seg (f' := (194, [some (.ref 62)], [(.long 1685217655), (.ref 62)])) (h' := (107, I, J, mm_rf rv sp rr w nw)) 2 rfl ?_
  obtain ⟨g118, hg118⟩ : ∃ z, fX12_isWord 1685217655 I J = z := ⟨_, rfl⟩
  try rw [hg118] at e
  refine mm_T.call (t := 216) (as := [(.ref 62), (.long 1685217655)]) (f' := (197, [some (.ref 62)], [])) rfl (tX12_isWord (d + 4) 1685217655 I J rv sp rr w nw g118 hg118) (fun v h hq => ?_)
  obtain ⟨rfl, rfl⟩ := hq
  refine mm_T.br (c := g118 = 0) (a := ((230, [some (.ref 62)], []), (107, I, J, mm_rf rv sp rr w nw))) (b := ((200, [some (.ref 62)], []), (107, I, J, mm_rf rv sp rr w nw))) rfl (fun h424 => ?_) (fun h424 => ?_)
  · rw [if_pos h424] at e
    refine mm_T.mask [true] ?_
    exact tbX12_readLine_J230 d n I J rv sp rr w nw out e
  · rw [if_neg h424] at e
    refine mm_T.seg (f' := (204, [some (.ref 62)], [(.int (I 62 53))])) (h' := (107, I, J, mm_rf rv sp rr w nw)) 2 rfl ?_
    refine mm_T.br (c := (I 62 53) = 0) (a := ((207, [some (.ref 62)], []), (107, I, J, mm_rf rv sp rr w nw))) (b := ((230, [some (.ref 62)], []), (107, I, J, mm_rf rv sp rr w nw))) rfl (fun h433 => ?_) (fun h433 => ?_)
    · rw [if_pos h433] at e
      refine mm_T.seg (f' := (221, [some (.ref 62)], [(.int 999), (.int 0), (.long 1685217655), (.ref 62), (.ref 62)])) (h' := (107, (mm_up I 62 53 1), J, mm_rf rv sp rr w nw)) 8 rfl ?_
      obtain ⟨o434, eo434, e⟩ := mm_bind e
      refine mm_T.call (t := 221) (as := [(.ref 62), (.long 1685217655), (.int 0), (.int 999)]) (f' := (224, [some (.ref 62)], [(.ref 62)])) rfl (tX12_told (d + 1) n 1685217655 0 999 (mm_up I 62 53 1) J rv sp rr w nw o434 eo434) (fun v h hq => ?_)
      obtain ⟨rfl, rfl⟩ := hq
      refine mm_T.seg (f' := (235, [some (.ref 62)], [])) (h' := (107, (mm_up o434.2.1 62 45 o434.1), o434.2.2, mm_rf rv sp rr w nw)) 2 rfl ?_
      refine mm_T.mask [true] ?_
      exact tbX12_readLine_J235 d n (mm_up o434.2.1 62 45 o434.1) o434.2.2 rv sp rr w nw out e
    · rw [if_neg h433] at e
      refine mm_T.mask [true] ?_
      exact tbX12_readLine_J230 d n I J rv sp rr w nw out e
set_option maxRecDepth 100000 in
set_option maxHeartbeats 4000000 in
theorem tbX12_readLine_J151 (d n : Nat) (I : Nat → Nat → Int32) (J : Nat → Nat → Int64) (rv sp rr w nw : Nat) (out : (Nat → Nat → Int32) × (Nat → Nat → Int64)) (e : fX12_readLine_J151 n I J = some out) : mm_T none (d + 5) 248 (151, [some (.ref 62)], []) (107, I, J, mm_rf rv sp rr w nw) (fun v h => v = none ∧ h = (107, out.1, out.2, mm_rf rv sp rr w nw)) := by
  unfold fX12_readLine_J151 at e
  refine mm_T.seg (f' := (155, [some (.ref 62)], [(.long 439905906532), (.ref 62)])) (h' := (107, I, J, mm_rf rv sp rr w nw)) 2 rfl ?_
  obtain ⟨g117, hg117⟩ : ∃ z, fX12_isWord 439905906532 I J = z := ⟨_, rfl⟩
  try rw [hg117] at e
  refine mm_T.call (t := 216) (as := [(.ref 62), (.long 439905906532)]) (f' := (158, [some (.ref 62)], [])) rfl (tX12_isWord (d + 4) 439905906532 I J rv sp rr w nw g117 hg117) (fun v h hq => ?_)
  obtain ⟨rfl, rfl⟩ := hq
  refine mm_T.br (c := g117 = 0) (a := ((190, [some (.ref 62)], []), (107, I, J, mm_rf rv sp rr w nw))) (b := ((161, [some (.ref 62)], []), (107, I, J, mm_rf rv sp rr w nw))) rfl (fun h423 => ?_) (fun h423 => ?_)
  · rw [if_pos h423] at e
    refine mm_T.mask [true] ?_
    exact tbX12_readLine_J190 d n I J rv sp rr w nw out e
  · rw [if_neg h423] at e
    refine mm_T.seg (f' := (165, [some (.ref 62)], [(.int (I 62 52))])) (h' := (107, I, J, mm_rf rv sp rr w nw)) 2 rfl ?_
    refine mm_T.br (c := (I 62 52) = 0) (a := ((168, [some (.ref 62)], []), (107, I, J, mm_rf rv sp rr w nw))) (b := ((190, [some (.ref 62)], []), (107, I, J, mm_rf rv sp rr w nw))) rfl (fun h435 => ?_) (fun h435 => ?_)
    · rw [if_pos h435] at e
      refine mm_T.seg (f' := (181, [some (.ref 62)], [(.int 100), (.int 0), (.long 439905906532), (.ref 62), (.ref 62)])) (h' := (107, (mm_up I 62 52 1), J, mm_rf rv sp rr w nw)) 8 rfl ?_
      obtain ⟨o436, eo436, e⟩ := mm_bind e
      refine mm_T.call (t := 221) (as := [(.ref 62), (.long 439905906532), (.int 0), (.int 100)]) (f' := (184, [some (.ref 62)], [(.ref 62)])) rfl (tX12_told (d + 1) n 439905906532 0 100 (mm_up I 62 52 1) J rv sp rr w nw o436 eo436) (fun v h hq => ?_)
      obtain ⟨rfl, rfl⟩ := hq
      refine mm_T.seg (f' := (235, [some (.ref 62)], [])) (h' := (107, (mm_up o436.2.1 62 44 o436.1), o436.2.2, mm_rf rv sp rr w nw)) 2 rfl ?_
      refine mm_T.mask [true] ?_
      exact tbX12_readLine_J235 d n (mm_up o436.2.1 62 44 o436.1) o436.2.2 rv sp rr w nw out e
    · rw [if_neg h435] at e
      refine mm_T.mask [true] ?_
      exact tbX12_readLine_J190 d n I J rv sp rr w nw out e
set_option maxRecDepth 100000 in
set_option maxHeartbeats 4000000 in
theorem tbX12_readLine_J127 (d n : Nat) (I : Nat → Nat → Int32) (J : Nat → Nat → Int64) (rv sp rr w nw : Nat) (out : (Nat → Nat → Int32) × (Nat → Nat → Int64)) (e : fX12_readLine_J127 n I J = some out) : mm_T none (d + 5) 248 (127, [some (.ref 62)], []) (107, I, J, mm_rf rv sp rr w nw) (fun v h => v = none ∧ h = (107, out.1, out.2, mm_rf rv sp rr w nw)) := by
  unfold fX12_readLine_J127 at e
  refine mm_T.seg (f' := (131, [some (.ref 62)], [(.long 1751474548), (.ref 62)])) (h' := (107, I, J, mm_rf rv sp rr w nw)) 2 rfl ?_
  obtain ⟨g116, hg116⟩ : ∃ z, fX12_isWord 1751474548 I J = z := ⟨_, rfl⟩
  try rw [hg116] at e
  refine mm_T.call (t := 216) (as := [(.ref 62), (.long 1751474548)]) (f' := (134, [some (.ref 62)], [])) rfl (tX12_isWord (d + 4) 1751474548 I J rv sp rr w nw g116 hg116) (fun v h hq => ?_)
  obtain ⟨rfl, rfl⟩ := hq
  refine mm_T.br (c := g116 = 0) (a := ((151, [some (.ref 62)], []), (107, I, J, mm_rf rv sp rr w nw))) (b := ((137, [some (.ref 62)], []), (107, I, J, mm_rf rv sp rr w nw))) rfl (fun h422 => ?_) (fun h422 => ?_)
  · rw [if_pos h422] at e
    refine mm_T.mask [true] ?_
    exact tbX12_readLine_J151 d n I J rv sp rr w nw out e
  · rw [if_neg h422] at e
    refine mm_T.seg (f' := (141, [some (.ref 62)], [(.int (I 62 24))])) (h' := (107, I, J, mm_rf rv sp rr w nw)) 2 rfl ?_
    refine mm_T.br (c := (I 62 24) = 0) (a := ((144, [some (.ref 62)], []), (107, I, J, mm_rf rv sp rr w nw))) (b := ((151, [some (.ref 62)], []), (107, I, J, mm_rf rv sp rr w nw))) rfl (fun h437 => ?_) (fun h437 => ?_)
    · rw [if_pos h437] at e
      refine mm_T.seg (f' := (145, [some (.ref 62)], [(.ref 62)])) (h' := (107, I, J, mm_rf rv sp rr w nw)) 1 rfl ?_
      obtain ⟨o438, eo438, e⟩ := mm_bind e
      refine mm_T.call (t := 235) (as := [(.ref 62)]) (f' := (148, [some (.ref 62)], [])) rfl (tX12_formula (d + 0) n I J rv sp rr w nw o438 eo438) (fun v h hq => ?_)
      obtain ⟨rfl, rfl⟩ := hq
      refine mm_T.seg (f' := (235, [some (.ref 62)], [])) (h' := (107, o438.1, o438.2, mm_rf rv sp rr w nw)) 1 rfl ?_
      refine mm_T.mask [true] ?_
      exact tbX12_readLine_J235 d n o438.1 o438.2 rv sp rr w nw out e
    · rw [if_neg h437] at e
      refine mm_T.mask [true] ?_
      exact tbX12_readLine_J151 d n I J rv sp rr w nw out e
set_option maxRecDepth 100000 in
set_option maxHeartbeats 4000000 in
theorem tbX12_readLine_J101 (d n : Nat) (I : Nat → Nat → Int32) (J : Nat → Nat → Int64) (rv sp rr w nw : Nat) (out : (Nat → Nat → Int32) × (Nat → Nat → Int64)) (e : fX12_readLine_J101 n I J = some out) : mm_T none (d + 5) 248 (101, [some (.ref 62)], []) (107, I, J, mm_rf rv sp rr w nw) (fun v h => v = none ∧ h = (107, out.1, out.2, mm_rf rv sp rr w nw)) := by
  unfold fX12_readLine_J101 at e
  refine mm_T.seg (f' := (105, [some (.ref 62)], [(.long 1819238756), (.ref 62)])) (h' := (107, I, J, mm_rf rv sp rr w nw)) 2 rfl ?_
  obtain ⟨g115, hg115⟩ : ∃ z, fX12_isWord 1819238756 I J = z := ⟨_, rfl⟩
  try rw [hg115] at e
  refine mm_T.call (t := 216) (as := [(.ref 62), (.long 1819238756)]) (f' := (108, [some (.ref 62)], [])) rfl (tX12_isWord (d + 4) 1819238756 I J rv sp rr w nw g115 hg115) (fun v h hq => ?_)
  obtain ⟨rfl, rfl⟩ := hq
  refine mm_T.br (c := g115 = 0) (a := ((127, [some (.ref 62)], []), (107, I, J, mm_rf rv sp rr w nw))) (b := ((111, [some (.ref 62)], []), (107, I, J, mm_rf rv sp rr w nw))) rfl (fun h421 => ?_) (fun h421 => ?_)
  · rw [if_pos h421] at e
    refine mm_T.mask [true] ?_
    exact tbX12_readLine_J127 d n I J rv sp rr w nw out e
  · rw [if_neg h421] at e
    refine mm_T.seg (f' := (117, [some (.ref 62)], [(.int 7), (.int (I 62 43))])) (h' := (107, I, J, mm_rf rv sp rr w nw)) 3 rfl ?_
    refine mm_T.br (c := (I 62 43) < 7) (a := ((120, [some (.ref 62)], []), (107, I, J, mm_rf rv sp rr w nw))) (b := ((127, [some (.ref 62)], []), (107, I, J, mm_rf rv sp rr w nw))) rfl (fun h439 => ?_) (fun h439 => ?_)
    · rw [if_pos h439] at e
      refine mm_T.seg (f' := (121, [some (.ref 62)], [(.ref 62)])) (h' := (107, I, J, mm_rf rv sp rr w nw)) 1 rfl ?_
      obtain ⟨o440, eo440, e⟩ := mm_bind e
      refine mm_T.call (t := 247) (as := [(.ref 62)]) (f' := (124, [some (.ref 62)], [])) rfl (tX12_readLoad (d + 0) n I J rv sp rr w nw o440 eo440) (fun v h hq => ?_)
      obtain ⟨rfl, rfl⟩ := hq
      refine mm_T.seg (f' := (235, [some (.ref 62)], [])) (h' := (107, o440.1, o440.2, mm_rf rv sp rr w nw)) 1 rfl ?_
      refine mm_T.mask [true] ?_
      exact tbX12_readLine_J235 d n o440.1 o440.2 rv sp rr w nw out e
    · rw [if_neg h439] at e
      refine mm_T.mask [true] ?_
      exact tbX12_readLine_J127 d n I J rv sp rr w nw out e
set_option maxRecDepth 100000 in
set_option maxHeartbeats 4000000 in
theorem tbX12_readLine_J76 (d n : Nat) (I : Nat → Nat → Int32) (J : Nat → Nat → Int64) (rv sp rr w nw : Nat) (out : (Nat → Nat → Int32) × (Nat → Nat → Int64)) (e : fX12_readLine_J76 n I J = some out) : mm_T none (d + 5) 248 (76, [some (.ref 62)], []) (107, I, J, mm_rf rv sp rr w nw) (fun v h => v = none ∧ h = (107, out.1, out.2, mm_rf rv sp rr w nw)) := by
  unfold fX12_readLine_J76 at e
  refine mm_T.seg (f' := (80, [some (.ref 62)], [(.long 422775452260), (.ref 62)])) (h' := (107, I, J, mm_rf rv sp rr w nw)) 2 rfl ?_
  obtain ⟨g114, hg114⟩ : ∃ z, fX12_isWord 422775452260 I J = z := ⟨_, rfl⟩
  try rw [hg114] at e
  refine mm_T.call (t := 216) (as := [(.ref 62), (.long 422775452260)]) (f' := (83, [some (.ref 62)], [])) rfl (tX12_isWord (d + 4) 422775452260 I J rv sp rr w nw g114 hg114) (fun v h hq => ?_)
  obtain ⟨rfl, rfl⟩ := hq
  refine mm_T.br (c := g114 = 0) (a := ((101, [some (.ref 62)], []), (107, I, J, mm_rf rv sp rr w nw))) (b := ((86, [some (.ref 62)], []), (107, I, J, mm_rf rv sp rr w nw))) rfl (fun h420 => ?_) (fun h420 => ?_)
  · rw [if_pos h420] at e
    refine mm_T.mask [true] ?_
    exact tbX12_readLine_J101 d n I J rv sp rr w nw out e
  · rw [if_neg h420] at e
    refine mm_T.seg (f' := (91, [some (.ref 62)], [(.int 4), (.int (I 62 42))])) (h' := (107, I, J, mm_rf rv sp rr w nw)) 3 rfl ?_
    refine mm_T.br (c := (I 62 42) < 4) (a := ((94, [some (.ref 62)], []), (107, I, J, mm_rf rv sp rr w nw))) (b := ((101, [some (.ref 62)], []), (107, I, J, mm_rf rv sp rr w nw))) rfl (fun h441 => ?_) (fun h441 => ?_)
    · rw [if_pos h441] at e
      refine mm_T.seg (f' := (95, [some (.ref 62)], [(.ref 62)])) (h' := (107, I, J, mm_rf rv sp rr w nw)) 1 rfl ?_
      obtain ⟨o442, eo442, e⟩ := mm_bind e
      refine mm_T.call (t := 246) (as := [(.ref 62)]) (f' := (98, [some (.ref 62)], [])) rfl (tX12_readBoard (d + 0) n I J rv sp rr w nw o442 eo442) (fun v h hq => ?_)
      obtain ⟨rfl, rfl⟩ := hq
      refine mm_T.seg (f' := (235, [some (.ref 62)], [])) (h' := (107, o442.1, o442.2, mm_rf rv sp rr w nw)) 1 rfl ?_
      refine mm_T.mask [true] ?_
      exact tbX12_readLine_J235 d n o442.1 o442.2 rv sp rr w nw out e
    · rw [if_neg h441] at e
      refine mm_T.mask [true] ?_
      exact tbX12_readLine_J101 d n I J rv sp rr w nw out e
set_option maxRecDepth 100000 in
set_option maxHeartbeats 4000000 in
theorem tbX12_readLine_J50 (d n : Nat) (I : Nat → Nat → Int32) (J : Nat → Nat → Int64) (rv sp rr w nw : Nat) (out : (Nat → Nat → Int32) × (Nat → Nat → Int64)) (e : fX12_readLine_J50 n I J = some out) : mm_T none (d + 5) 248 (50, [some (.ref 62)], []) (107, I, J, mm_rf rv sp rr w nw) (fun v h => v = none ∧ h = (107, out.1, out.2, mm_rf rv sp rr w nw)) := by
  unfold fX12_readLine_J50 at e
  refine mm_T.seg (f' := (54, [some (.ref 62)], [(.long 1769107310), (.ref 62)])) (h' := (107, I, J, mm_rf rv sp rr w nw)) 2 rfl ?_
  obtain ⟨g113, hg113⟩ : ∃ z, fX12_isWord 1769107310 I J = z := ⟨_, rfl⟩
  try rw [hg113] at e
  refine mm_T.call (t := 216) (as := [(.ref 62), (.long 1769107310)]) (f' := (57, [some (.ref 62)], [])) rfl (tX12_isWord (d + 4) 1769107310 I J rv sp rr w nw g113 hg113) (fun v h hq => ?_)
  obtain ⟨rfl, rfl⟩ := hq
  refine mm_T.br (c := g113 = 0) (a := ((76, [some (.ref 62)], []), (107, I, J, mm_rf rv sp rr w nw))) (b := ((60, [some (.ref 62)], []), (107, I, J, mm_rf rv sp rr w nw))) rfl (fun h419 => ?_) (fun h419 => ?_)
  · rw [if_pos h419] at e
    refine mm_T.mask [true] ?_
    exact tbX12_readLine_J76 d n I J rv sp rr w nw out e
  · rw [if_neg h419] at e
    refine mm_T.seg (f' := (66, [some (.ref 62)], [(.int 6), (.int (I 62 41))])) (h' := (107, I, J, mm_rf rv sp rr w nw)) 3 rfl ?_
    refine mm_T.br (c := (I 62 41) < 6) (a := ((69, [some (.ref 62)], []), (107, I, J, mm_rf rv sp rr w nw))) (b := ((76, [some (.ref 62)], []), (107, I, J, mm_rf rv sp rr w nw))) rfl (fun h443 => ?_) (fun h443 => ?_)
    · rw [if_pos h443] at e
      refine mm_T.seg (f' := (70, [some (.ref 62)], [(.ref 62)])) (h' := (107, I, J, mm_rf rv sp rr w nw)) 1 rfl ?_
      obtain ⟨o444, eo444, e⟩ := mm_bind e
      refine mm_T.call (t := 245) (as := [(.ref 62)]) (f' := (73, [some (.ref 62)], [])) rfl (tX12_readIron (d + 0) n I J rv sp rr w nw o444 eo444) (fun v h hq => ?_)
      obtain ⟨rfl, rfl⟩ := hq
      refine mm_T.seg (f' := (235, [some (.ref 62)], [])) (h' := (107, o444.1, o444.2, mm_rf rv sp rr w nw)) 1 rfl ?_
      refine mm_T.mask [true] ?_
      exact tbX12_readLine_J235 d n o444.1 o444.2 rv sp rr w nw out e
    · rw [if_neg h443] at e
      refine mm_T.mask [true] ?_
      exact tbX12_readLine_J76 d n I J rv sp rr w nw out e
set_option maxRecDepth 100000 in
set_option maxHeartbeats 4000000 in
theorem tbX12_readLine_J24 (d n : Nat) (I : Nat → Nat → Int32) (J : Nat → Nat → Int64) (rv sp rr w nw : Nat) (out : (Nat → Nat → Int32) × (Nat → Nat → Int64)) (e : fX12_readLine_J24 n I J = some out) : mm_T none (d + 5) 248 (24, [some (.ref 62)], []) (107, I, J, mm_rf rv sp rr w nw) (fun v h => v = none ∧ h = (107, out.1, out.2, mm_rf rv sp rr w nw)) := by
  unfold fX12_readLine_J24 at e
  refine mm_T.seg (f' := (28, [some (.ref 62)], [(.long 27995157100326516), (.ref 62)])) (h' := (107, I, J, mm_rf rv sp rr w nw)) 2 rfl ?_
  obtain ⟨g112, hg112⟩ : ∃ z, fX12_isWord 27995157100326516 I J = z := ⟨_, rfl⟩
  try rw [hg112] at e
  refine mm_T.call (t := 216) (as := [(.ref 62), (.long 27995157100326516)]) (f' := (31, [some (.ref 62)], [])) rfl (tX12_isWord (d + 4) 27995157100326516 I J rv sp rr w nw g112 hg112) (fun v h hq => ?_)
  obtain ⟨rfl, rfl⟩ := hq
  refine mm_T.br (c := g112 = 0) (a := ((50, [some (.ref 62)], []), (107, I, J, mm_rf rv sp rr w nw))) (b := ((34, [some (.ref 62)], []), (107, I, J, mm_rf rv sp rr w nw))) rfl (fun h418 => ?_) (fun h418 => ?_)
  · rw [if_pos h418] at e
    refine mm_T.mask [true] ?_
    exact tbX12_readLine_J50 d n I J rv sp rr w nw out e
  · rw [if_neg h418] at e
    refine mm_T.seg (f' := (40, [some (.ref 62)], [(.int 16), (.int (I 62 40))])) (h' := (107, I, J, mm_rf rv sp rr w nw)) 3 rfl ?_
    refine mm_T.br (c := (I 62 40) < 16) (a := ((43, [some (.ref 62)], []), (107, I, J, mm_rf rv sp rr w nw))) (b := ((50, [some (.ref 62)], []), (107, I, J, mm_rf rv sp rr w nw))) rfl (fun h445 => ?_) (fun h445 => ?_)
    · rw [if_pos h445] at e
      refine mm_T.seg (f' := (44, [some (.ref 62)], [(.ref 62)])) (h' := (107, I, J, mm_rf rv sp rr w nw)) 1 rfl ?_
      obtain ⟨o446, eo446, e⟩ := mm_bind e
      refine mm_T.call (t := 244) (as := [(.ref 62)]) (f' := (47, [some (.ref 62)], [])) rfl (tX12_readCurrent (d + 0) n I J rv sp rr w nw o446 eo446) (fun v h hq => ?_)
      obtain ⟨rfl, rfl⟩ := hq
      refine mm_T.seg (f' := (235, [some (.ref 62)], [])) (h' := (107, o446.1, o446.2, mm_rf rv sp rr w nw)) 1 rfl ?_
      refine mm_T.mask [true] ?_
      exact tbX12_readLine_J235 d n o446.1 o446.2 rv sp rr w nw out e
    · rw [if_neg h445] at e
      refine mm_T.mask [true] ?_
      exact tbX12_readLine_J50 d n I J rv sp rr w nw out e
set_option maxRecDepth 100000 in
set_option maxHeartbeats 4000000 in
theorem tX12_readLine (d n : Nat) (I : Nat → Nat → Int32) (J : Nat → Nat → Int64) (rv sp rr w nw : Nat) (out : (Nat → Nat → Int32) × (Nat → Nat → Int64)) (e : fX12_readLine n I J = some out) : mm_T none (d + 5) 248 (mm_ent 248 [(.ref 62)]) (107, I, J, mm_rf rv sp rr w nw) (fun v h => v = none ∧ h = (107, out.1, out.2, mm_rf rv sp rr w nw)) := by
  unfold fX12_readLine at e
  refine mm_T.seg (f' := (4, [some (.ref 62)], [(.long 512736126322), (.ref 62)])) (h' := (107, I, J, mm_rf rv sp rr w nw)) 2 rfl ?_
  obtain ⟨g111, hg111⟩ : ∃ z, fX12_isWord 512736126322 I J = z := ⟨_, rfl⟩
  try rw [hg111] at e
  refine mm_T.call (t := 216) (as := [(.ref 62), (.long 512736126322)]) (f' := (7, [some (.ref 62)], [])) rfl (tX12_isWord (d + 4) 512736126322 I J rv sp rr w nw g111 hg111) (fun v h hq => ?_)
  obtain ⟨rfl, rfl⟩ := hq
  refine mm_T.br (c := g111 = 0) (a := ((24, [some (.ref 62)], []), (107, I, J, mm_rf rv sp rr w nw))) (b := ((10, [some (.ref 62)], []), (107, I, J, mm_rf rv sp rr w nw))) rfl (fun h417 => ?_) (fun h417 => ?_)
  · rw [if_pos h417] at e
    refine mm_T.mask [true] ?_
    exact tbX12_readLine_J24 d n I J rv sp rr w nw out e
  · rw [if_neg h417] at e
    refine mm_T.seg (f' := (14, [some (.ref 62)], [(.int (I 62 51))])) (h' := (107, I, J, mm_rf rv sp rr w nw)) 2 rfl ?_
    refine mm_T.br (c := (I 62 51) = 0) (a := ((17, [some (.ref 62)], []), (107, I, J, mm_rf rv sp rr w nw))) (b := ((24, [some (.ref 62)], []), (107, I, J, mm_rf rv sp rr w nw))) rfl (fun h447 => ?_) (fun h447 => ?_)
    · rw [if_pos h447] at e
      refine mm_T.seg (f' := (18, [some (.ref 62)], [(.ref 62)])) (h' := (107, I, J, mm_rf rv sp rr w nw)) 1 rfl ?_
      obtain ⟨o448, eo448, e⟩ := mm_bind e
      refine mm_T.call (t := 242) (as := [(.ref 62)]) (f' := (21, [some (.ref 62)], [])) rfl (tX12_readWater (d + 0) n I J rv sp rr w nw o448 eo448) (fun v h hq => ?_)
      obtain ⟨rfl, rfl⟩ := hq
      refine mm_T.seg (f' := (235, [some (.ref 62)], [])) (h' := (107, o448.1, o448.2, mm_rf rv sp rr w nw)) 1 rfl ?_
      refine mm_T.mask [true] ?_
      exact tbX12_readLine_J235 d n o448.1 o448.2 rv sp rr w nw out e
    · rw [if_neg h447] at e
      refine mm_T.mask [true] ?_
      exact tbX12_readLine_J24 d n I J rv sp rr w nw out e
set_option maxRecDepth 100000 in
set_option maxHeartbeats 4000000 in
theorem tlX12_readAll_L97 (d : Nat) (Q : Option Value → mm_H → Prop) : ∀ (n : Nat) (y1 : Int32) (I : Nat → Nat → Int32) (J : Nat → Nat → Int64) (rv sp rr w nw : Nat), ∀ (out : (Nat → Nat → Int32)), fX12_readAll_L97 n y1 I = some out → mm_T none (d + 6) 249 (123, [some (.ref 62), none], []) (107, out, J, mm_rf rv sp rr w nw) Q → mm_T none (d + 6) 249 (97, [some (.ref 62), some (.int y1)], []) (107, I, J, mm_rf rv sp rr w nw) Q := by
  intro n
  induction n with
  | zero =>
    intro y1 I J rv sp rr w nw out e k
    rw [fX12_readAll_L97] at e; cases e
  | succ n ih =>
    intro y1 I J rv sp rr w nw out e k
    rw [fX12_readAll_L97] at e
    refine mm_T.seg (f' := (100, [some (.ref 62), some (.int y1)], [(.int 56), (.int y1)])) (h' := (107, I, J, mm_rf rv sp rr w nw)) 2 rfl ?_
    refine mm_T.br (c := y1 < 56) (a := ((103, [some (.ref 62), some (.int y1)], []), (107, I, J, mm_rf rv sp rr w nw))) (b := ((123, [some (.ref 62), some (.int y1)], []), (107, I, J, mm_rf rv sp rr w nw))) rfl (fun h449 => ?_) (fun h449 => ?_)
    · rw [if_pos h449] at e
      refine mm_T.seg (f' := (107, [some (.ref 62), some (.int y1)], [(.ref 72)])) (h' := (107, I, J, mm_rf rv sp rr w nw)) 2 rfl ?_
      refine mm_T.seg (f' := (109, [some (.ref 62), some (.int y1)], [(.int (-1)), (.int y1), (.ref 72)])) (h' := (107, I, J, mm_rf rv sp rr w nw)) 2 rfl ?_
      by_cases h450 : y1 < 0 ∨ 56 ≤ y1.toNatClampNeg
      · rw [if_pos h450] at e; cases e
      rw [if_neg h450] at e
      refine mm_T.guard (y := ((110, [some (.ref 62), some (.int y1)], []), (107, (mm_up I 72 y1.toNatClampNeg (-1)), J, mm_rf rv sp rr w nw))) rfl h450 ?_
      refine mm_T.seg (f' := (114, [some (.ref 62), some (.int y1)], [(.ref 73)])) (h' := (107, (mm_up I 72 y1.toNatClampNeg (-1)), J, mm_rf rv sp rr w nw)) 2 rfl ?_
      refine mm_T.seg (f' := (116, [some (.ref 62), some (.int y1)], [(.int (-1)), (.int y1), (.ref 73)])) (h' := (107, (mm_up I 72 y1.toNatClampNeg (-1)), J, mm_rf rv sp rr w nw)) 2 rfl ?_
      by_cases h451 : y1 < 0 ∨ 56 ≤ y1.toNatClampNeg
      · rw [if_pos h451] at e; cases e
      rw [if_neg h451] at e
      refine mm_T.guard (y := ((117, [some (.ref 62), some (.int y1)], []), (107, (mm_up (mm_up I 72 y1.toNatClampNeg (-1)) 73 y1.toNatClampNeg (-1)), J, mm_rf rv sp rr w nw))) rfl h451 ?_
      refine mm_T.seg (f' := (97, [some (.ref 62), some (.int (y1 + 1))], [])) (h' := (107, (mm_up (mm_up I 72 y1.toNatClampNeg (-1)) 73 y1.toNatClampNeg (-1)), J, mm_rf rv sp rr w nw)) 2 rfl ?_
      refine mm_T.mask [true, true] ?_
      exact ih (y1 + 1) (mm_up (mm_up I 72 y1.toNatClampNeg (-1)) 73 y1.toNatClampNeg (-1)) J rv sp rr w nw out e k
    · rw [if_neg h449] at e
      cases e
      refine mm_T.mask [true, false] ?_
      exact k
set_option maxRecDepth 100000 in
set_option maxHeartbeats 4000000 in
theorem tlX12_readAll_L127 (d : Nat) (Q : Option Value → mm_H → Prop) : ∀ (n : Nat) (I : Nat → Nat → Int32) (J : Nat → Nat → Int64) (rv sp rr w nw : Nat), ∀ (out : (Nat → Nat → Int32) × (Nat → Nat → Int64)), fX12_readAll_L127 n I J = some out → mm_T none (d + 6) 249 (148, [none, none], []) (107, out.1, out.2, mm_rf rv sp rr w nw) Q → mm_T none (d + 6) 249 (127, [some (.ref 62), none], []) (107, I, J, mm_rf rv sp rr w nw) Q := by
  intro n
  induction n with
  | zero =>
    intro I J rv sp rr w nw out e k
    rw [fX12_readAll_L127] at e; cases e
  | succ n ih =>
    intro I J rv sp rr w nw out e k
    rw [fX12_readAll_L127] at e
    refine mm_T.seg (f' := (131, [some (.ref 62), none], [(.int (I 62 2))])) (h' := (107, I, J, mm_rf rv sp rr w nw)) 2 rfl ?_
    refine mm_T.br (c := (I 62 2) = 0) (a := ((134, [some (.ref 62), none], []), (107, I, J, mm_rf rv sp rr w nw))) (b := ((148, [some (.ref 62), none], []), (107, I, J, mm_rf rv sp rr w nw))) rfl (fun h454 => ?_) (fun h454 => ?_)
    · rw [if_pos h454] at e
      refine mm_T.seg (f' := (138, [some (.ref 62), none], [(.int (I 62 6))])) (h' := (107, I, J, mm_rf rv sp rr w nw)) 2 rfl ?_
      refine mm_T.br (c := (I 62 6) = 0) (a := ((148, [some (.ref 62), none], []), (107, I, J, mm_rf rv sp rr w nw))) (b := ((141, [some (.ref 62), none], []), (107, I, J, mm_rf rv sp rr w nw))) rfl (fun h455 => ?_) (fun h455 => ?_)
      · rw [if_pos h455] at e
        cases e
        refine mm_T.mask [false, false] ?_
        exact k
      · rw [if_neg h455] at e
        refine mm_T.seg (f' := (142, [some (.ref 62), none], [(.ref 62)])) (h' := (107, I, J, mm_rf rv sp rr w nw)) 1 rfl ?_
        obtain ⟨o456, eo456, e⟩ := mm_bind e
        refine mm_T.call (t := 248) (as := [(.ref 62)]) (f' := (145, [some (.ref 62), none], [])) rfl (tX12_readLine (d + 0) n I J rv sp rr w nw o456 eo456) (fun v h hq => ?_)
        obtain ⟨rfl, rfl⟩ := hq
        refine mm_T.seg (f' := (127, [some (.ref 62), none], [])) (h' := (107, o456.1, o456.2, mm_rf rv sp rr w nw)) 1 rfl ?_
        refine mm_T.mask [true, false] ?_
        exact ih o456.1 o456.2 rv sp rr w nw out e k
    · rw [if_neg h454] at e
      cases e
      refine mm_T.mask [false, false] ?_
      exact k
set_option maxRecDepth 100000 in
set_option maxHeartbeats 4000000 in
theorem tX12_readAll (d n : Nat) (I : Nat → Nat → Int32) (J : Nat → Nat → Int64) (rv sp rr w nw : Nat) (out : (Nat → Nat → Int32) × (Nat → Nat → Int64)) (e : fX12_readAll n I J = some out) : mm_T none (d + 6) 249 (mm_ent 249 [(.ref 62)]) (107, I, J, mm_rf rv sp rr w nw) (fun v h => v = none ∧ h = (107, out.1, out.2, mm_rf rv sp rr w nw)) := by
  unfold fX12_readAll at e
  refine mm_T.seg (f' := (97, [some (.ref 62), some (.int 0)], [])) (h' := (107, (mm_up (mm_up (mm_up (mm_up (mm_up (mm_up (mm_up (mm_up (mm_up (mm_up (mm_up (mm_up (mm_up (mm_up (mm_up (mm_up (mm_up (mm_up I 62 5 (I 62 1)) 62 1 0) 62 4 0) 62 2 0) 62 3 (-1)) 62 38 8) 62 39 6) 62 40 0) 62 41 0) 62 42 0) 62 43 0) 62 44 0) 62 45 0) 62 51 0) 62 52 0) 62 53 0) 62 24 0) 62 20 0), J, mm_rf rv sp rr w nw)) 57 rfl ?_
  refine mm_T.mask [true, true] ?_
  obtain ⟨o452, eo452, e⟩ := mm_bind e
  refine tlX12_readAll_L97 d _ n 0 (mm_up (mm_up (mm_up (mm_up (mm_up (mm_up (mm_up (mm_up (mm_up (mm_up (mm_up (mm_up (mm_up (mm_up (mm_up (mm_up (mm_up (mm_up I 62 5 (I 62 1)) 62 1 0) 62 4 0) 62 2 0) 62 3 (-1)) 62 38 8) 62 39 6) 62 40 0) 62 41 0) 62 42 0) 62 43 0) 62 44 0) 62 45 0) 62 51 0) 62 52 0) 62 53 0) 62 24 0) 62 20 0) J rv sp rr w nw o452 eo452 ?_
  refine mm_T.seg (f' := (124, [some (.ref 62), none], [(.ref 62)])) (h' := (107, o452, J, mm_rf rv sp rr w nw)) 1 rfl ?_
  obtain ⟨o453, eo453, e⟩ := mm_bind e
  refine mm_T.call (t := 214) (as := [(.ref 62)]) (f' := (127, [some (.ref 62), none], [])) rfl (tX12_token (d + 4) n o452 J rv sp rr w nw o453 eo453) (fun v h hq => ?_)
  obtain ⟨rfl, rfl⟩ := hq
  refine mm_T.mask [true, false] ?_
  obtain ⟨o457, eo457, e⟩ := mm_bind e
  refine tlX12_readAll_L127 d _ n o453.1 o453.2 rv sp rr w nw o457 eo457 ?_
  cases e
  exact mm_T.ret rfl ⟨rfl, rfl⟩
