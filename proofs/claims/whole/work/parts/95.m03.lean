set_option maxRecDepth 100000 in
set_option maxHeartbeats 4000000 in
theorem tX12_fault (d : Nat) (x1 : Int32) (I : Nat → Nat → Int32) (J : Nat → Nat → Int64) (rv sp rr w nw : Nat) (out : Int32) (e : fX12_fault x1 I = out) : mm_T none (d + 0) 251 (mm_ent 251 [(.ref 62), (.int x1)]) (107, I, J, mm_rf rv sp rr w nw) (fun v h => v = some (.int out) ∧ h = (107, I, J, mm_rf rv sp rr w nw)) := by
  unfold fX12_fault at e
  refine mm_T.seg (f' := (1, [some (.ref 62), some (.int x1)], [(.int x1)])) (h' := (107, I, J, mm_rf rv sp rr w nw)) 1 rfl ?_
  refine mm_T.br (c := x1 = 0) (a := ((4, [some (.ref 62), some (.int x1)], []), (107, I, J, mm_rf rv sp rr w nw))) (b := ((11, [some (.ref 62), some (.int x1)], []), (107, I, J, mm_rf rv sp rr w nw))) rfl (fun h503 => ?_) (fun h503 => ?_)
  · rw [if_pos h503] at e
    refine mm_T.seg (f' := (24, [some (.ref 62), some (.int x1)], [(.int (I 62 2))])) (h' := (107, I, J, mm_rf rv sp rr w nw)) 3 rfl ?_
    cases e
    exact mm_T.ret rfl ⟨rfl, rfl⟩
  · rw [if_neg h503] at e
    refine mm_T.seg (f' := (13, [some (.ref 62), some (.int x1)], [(.int 1), (.int x1)])) (h' := (107, I, J, mm_rf rv sp rr w nw)) 2 rfl ?_
    refine mm_T.br (c := x1 = 1) (a := ((16, [some (.ref 62), some (.int x1)], []), (107, I, J, mm_rf rv sp rr w nw))) (b := ((23, [some (.ref 62), some (.int x1)], []), (107, I, J, mm_rf rv sp rr w nw))) rfl (fun h504 => ?_) (fun h504 => ?_)
    · rw [if_pos h504] at e
      refine mm_T.seg (f' := (24, [some (.ref 62), some (.int x1)], [(.int (I 62 3))])) (h' := (107, I, J, mm_rf rv sp rr w nw)) 3 rfl ?_
      cases e
      exact mm_T.ret rfl ⟨rfl, rfl⟩
    · rw [if_neg h504] at e
      refine mm_T.seg (f' := (24, [some (.ref 62), some (.int x1)], [(.int (-1))])) (h' := (107, I, J, mm_rf rv sp rr w nw)) 1 rfl ?_
      cases e
      exact mm_T.ret rfl ⟨rfl, rfl⟩
set_option maxRecDepth 100000 in
set_option maxHeartbeats 4000000 in
theorem tX12_isIn (d : Nat) (x0 : Int32) (x1 : Int32) (x2 : Int32) (I : Nat → Nat → Int32) (J : Nat → Nat → Int64) (rv sp rr w nw : Nat) (out : Int32) (e : fX12_isIn x0 x1 x2 = out) : mm_T none (d + 0) 252 (mm_ent 252 [(.int x0), (.int x1), (.int x2)]) (107, I, J, mm_rf rv sp rr w nw) (fun v h => v = some (.int out) ∧ h = (107, I, J, mm_rf rv sp rr w nw)) := by
  unfold fX12_isIn at e
  refine mm_T.seg (f' := (2, [some (.int x0), some (.int x1), some (.int x2)], [(.int x1), (.int x0)])) (h' := (107, I, J, mm_rf rv sp rr w nw)) 2 rfl ?_
  refine mm_T.br (c := x0 < x1) (a := ((14, [some (.int x0), some (.int x1), some (.int x2)], []), (107, I, J, mm_rf rv sp rr w nw))) (b := ((5, [some (.int x0), some (.int x1), some (.int x2)], []), (107, I, J, mm_rf rv sp rr w nw))) rfl (fun h505 => ?_) (fun h505 => ?_)
  · rw [if_pos h505] at e
    refine mm_T.seg (f' := (15, [some (.int x0), some (.int x1), some (.int x2)], [(.int 0)])) (h' := (107, I, J, mm_rf rv sp rr w nw)) 1 rfl ?_
    cases e
    exact mm_T.ret rfl ⟨rfl, rfl⟩
  · rw [if_neg h505] at e
    refine mm_T.seg (f' := (7, [some (.int x0), some (.int x1), some (.int x2)], [(.int x2), (.int x0)])) (h' := (107, I, J, mm_rf rv sp rr w nw)) 2 rfl ?_
    refine mm_T.br (c := x2 < x0) (a := ((14, [some (.int x0), some (.int x1), some (.int x2)], []), (107, I, J, mm_rf rv sp rr w nw))) (b := ((10, [some (.int x0), some (.int x1), some (.int x2)], []), (107, I, J, mm_rf rv sp rr w nw))) rfl (fun h506 => ?_) (fun h506 => ?_)
    · rw [if_pos h506] at e
      refine mm_T.seg (f' := (15, [some (.int x0), some (.int x1), some (.int x2)], [(.int 0)])) (h' := (107, I, J, mm_rf rv sp rr w nw)) 1 rfl ?_
      cases e
      exact mm_T.ret rfl ⟨rfl, rfl⟩
    · rw [if_neg h506] at e
      refine mm_T.seg (f' := (15, [some (.int x0), some (.int x1), some (.int x2)], [(.int 1)])) (h' := (107, I, J, mm_rf rv sp rr w nw)) 2 rfl ?_
      cases e
      exact mm_T.ret rfl ⟨rfl, rfl⟩
set_option maxRecDepth 100000 in
set_option maxHeartbeats 4000000 in
theorem tX12_isBoard (d : Nat) (x1 : Int32) (I : Nat → Nat → Int32) (J : Nat → Nat → Int64) (rv sp rr w nw : Nat) (out : Int32) (e : fX12_isBoard x1 I = some out) : mm_T none (d + 1) 253 (mm_ent 253 [(.ref 62), (.int x1)]) (107, I, J, mm_rf rv sp rr w nw) (fun v h => v = some (.int out) ∧ h = (107, I, J, mm_rf rv sp rr w nw)) := by
  unfold fX12_isBoard at e
  refine mm_T.seg (f' := (8, [some (.ref 62), some (.int x1)], [(.int ((I 62 48) - 1)), (.int 0), (.int x1)])) (h' := (107, I, J, mm_rf rv sp rr w nw)) 6 rfl ?_
  refine mm_T.call (t := 252) (as := [(.int x1), (.int 0), (.int ((I 62 48) - 1))]) (f' := (11, [some (.ref 62), some (.int x1)], [])) rfl (tX12_isIn (d + 0) x1 0 ((I 62 48) - 1) I J rv sp rr w nw _ rfl) (fun v h hq => ?_)
  obtain ⟨rfl, rfl⟩ := hq
  by_cases h507 : (fX12_isIn x1 0 ((I 62 48) - 1)) = 0 ∨ (fX12_isIn x1 0 ((I 62 48) - 1)) = 1
  case neg => rw [if_neg h507] at e; cases e
  rw [if_pos h507] at e
  cases e
  first | exact mm_T.retZ (v := some (.int (fX12_isIn x1 0 ((I 62 48) - 1)))) rfl h507 ⟨rfl, rfl⟩ | exact mm_T.retZ (v := some (.int out)) rfl h507 ⟨rfl, rfl⟩
set_option maxRecDepth 100000 in
set_option maxHeartbeats 4000000 in
theorem tX12_isLoad (d : Nat) (x1 : Int32) (I : Nat → Nat → Int32) (J : Nat → Nat → Int64) (rv sp rr w nw : Nat) (out : Int32) (e : fX12_isLoad x1 I = some out) : mm_T none (d + 1) 254 (mm_ent 254 [(.ref 62), (.int x1)]) (107, I, J, mm_rf rv sp rr w nw) (fun v h => v = some (.int out) ∧ h = (107, I, J, mm_rf rv sp rr w nw)) := by
  unfold fX12_isLoad at e
  refine mm_T.seg (f' := (8, [some (.ref 62), some (.int x1)], [(.int ((I 62 49) - 1)), (.int 0), (.int x1)])) (h' := (107, I, J, mm_rf rv sp rr w nw)) 6 rfl ?_
  refine mm_T.call (t := 252) (as := [(.int x1), (.int 0), (.int ((I 62 49) - 1))]) (f' := (11, [some (.ref 62), some (.int x1)], [])) rfl (tX12_isIn (d + 0) x1 0 ((I 62 49) - 1) I J rv sp rr w nw _ rfl) (fun v h hq => ?_)
  obtain ⟨rfl, rfl⟩ := hq
  by_cases h508 : (fX12_isIn x1 0 ((I 62 49) - 1)) = 0 ∨ (fX12_isIn x1 0 ((I 62 49) - 1)) = 1
  case neg => rw [if_neg h508] at e; cases e
  rw [if_pos h508] at e
  cases e
  first | exact mm_T.retZ (v := some (.int (fX12_isIn x1 0 ((I 62 49) - 1)))) rfl h508 ⟨rfl, rfl⟩ | exact mm_T.retZ (v := some (.int out)) rfl h508 ⟨rfl, rfl⟩
set_option maxRecDepth 100000 in
set_option maxHeartbeats 4000000 in
theorem tlX12_members_L4 (d : Nat) (Q : Option Value → mm_H → Prop) : ∀ (n : Nat) (y0 : Int32) (y1 : Int32) (y2 : Int32) (I : Nat → Nat → Int32) (J : Nat → Nat → Int64) (rv sp rr w nw : Nat), ∀ (out : Int32), fX12_members_L4 n y0 y1 y2 = some out → mm_T none (d + 0) 255 (24, [none, some (.int out), none], []) (107, I, J, mm_rf rv sp rr w nw) Q → mm_T none (d + 0) 255 (4, [some (.int y0), some (.int y1), some (.int y2)], []) (107, I, J, mm_rf rv sp rr w nw) Q := by
  intro n
  induction n with
  | zero =>
    intro y0 y1 y2 I J rv sp rr w nw out e k
    rw [fX12_members_L4] at e; cases e
  | succ n ih =>
    intro y0 y1 y2 I J rv sp rr w nw out e k
    rw [fX12_members_L4] at e
    refine mm_T.seg (f' := (7, [some (.int y0), some (.int y1), some (.int y2)], [(.int 8), (.int y2)])) (h' := (107, I, J, mm_rf rv sp rr w nw)) 2 rfl ?_
    refine mm_T.br (c := y2 < 8) (a := ((10, [some (.int y0), some (.int y1), some (.int y2)], []), (107, I, J, mm_rf rv sp rr w nw))) (b := ((24, [some (.int y0), some (.int y1), some (.int y2)], []), (107, I, J, mm_rf rv sp rr w nw))) rfl (fun h509 => ?_) (fun h509 => ?_)
    · rw [if_pos h509] at e
      refine mm_T.seg (f' := (4, [some (.int y0), some (.int (y1 + ((y0 >>> (y2 &&& 31)) &&& 1))), some (.int (y2 + 1))], [])) (h' := (107, I, J, mm_rf rv sp rr w nw)) 10 rfl ?_
      refine mm_T.mask [true, true, true] ?_
      exact ih y0 (y1 + ((y0 >>> (y2 &&& 31)) &&& 1)) (y2 + 1) I J rv sp rr w nw out e k
    · rw [if_neg h509] at e
      cases e
      refine mm_T.mask [false, true, false] ?_
      exact k
set_option maxRecDepth 100000 in
set_option maxHeartbeats 4000000 in
theorem tX12_members (d n : Nat) (x0 : Int32) (I : Nat → Nat → Int32) (J : Nat → Nat → Int64) (rv sp rr w nw : Nat) (out : Int32) (e : fX12_members n x0 = some out) : mm_T none (d + 0) 255 (mm_ent 255 [(.int x0)]) (107, I, J, mm_rf rv sp rr w nw) (fun v h => v = some (.int out) ∧ h = (107, I, J, mm_rf rv sp rr w nw)) := by
  unfold fX12_members at e
  refine mm_T.seg (f' := (4, [some (.int x0), some (.int 0), some (.int 0)], [])) (h' := (107, I, J, mm_rf rv sp rr w nw)) 4 rfl ?_
  refine mm_T.mask [true, true, true] ?_
  obtain ⟨o510, eo510, e⟩ := mm_bind e
  refine tlX12_members_L4 d _ n x0 0 0 I J rv sp rr w nw o510 eo510 ?_
  refine mm_T.seg (f' := (25, [none, some (.int o510), none], [(.int o510)])) (h' := (107, I, J, mm_rf rv sp rr w nw)) 1 rfl ?_
  cases e
  exact mm_T.ret rfl ⟨rfl, rfl⟩
set_option maxRecDepth 100000 in
set_option maxHeartbeats 4000000 in
theorem tlX12_fill_L2 (d : Nat) (Q : Option Value → mm_H → Prop) : ∀ (n : Nat) (y1 : Int32) (I : Nat → Nat → Int32) (J : Nat → Nat → Int64) (rv sp rr w nw : Nat), ∀ (out : (Nat → Nat → Int32)), fX12_fill_L2 n y1 I = some out → mm_T none (d + 0) 256 (26, [none, none], []) (107, out, J, mm_rf rv sp rr w nw) Q → mm_T none (d + 0) 256 (2, [some (.ref 62), some (.int y1)], []) (107, I, J, mm_rf rv sp rr w nw) Q := by
  intro n
  induction n with
  | zero =>
    intro y1 I J rv sp rr w nw out e k
    rw [fX12_fill_L2] at e; cases e
  | succ n ih =>
    intro y1 I J rv sp rr w nw out e k
    rw [fX12_fill_L2] at e
    refine mm_T.seg (f' := (5, [some (.ref 62), some (.int y1)], [(.int 28), (.int y1)])) (h' := (107, I, J, mm_rf rv sp rr w nw)) 2 rfl ?_
    refine mm_T.br (c := y1 < 28) (a := ((8, [some (.ref 62), some (.int y1)], []), (107, I, J, mm_rf rv sp rr w nw))) (b := ((26, [some (.ref 62), some (.int y1)], []), (107, I, J, mm_rf rv sp rr w nw))) rfl (fun h511 => ?_) (fun h511 => ?_)
    · rw [if_pos h511] at e
      refine mm_T.seg (f' := (18, [some (.ref 62), some (.int y1)], [(.int y1), (.ref 84), (.int y1), (.ref 85)])) (h' := (107, I, J, mm_rf rv sp rr w nw)) 6 rfl ?_
      by_cases h512 : y1 < 0 ∨ 28 ≤ y1.toNatClampNeg
      · rw [if_pos h512] at e; cases e
      rw [if_neg h512] at e
      refine mm_T.guard (y := ((19, [some (.ref 62), some (.int y1)], [(.int (I 84 y1.toNatClampNeg)), (.int y1), (.ref 85)]), (107, I, J, mm_rf rv sp rr w nw))) rfl h512 ?_
      by_cases h513 : y1 < 0 ∨ 28 ≤ y1.toNatClampNeg
      · rw [if_pos h513] at e; cases e
      rw [if_neg h513] at e
      refine mm_T.guard (y := ((20, [some (.ref 62), some (.int y1)], []), (107, (mm_up I 85 y1.toNatClampNeg (I 84 y1.toNatClampNeg)), J, mm_rf rv sp rr w nw))) rfl h513 ?_
      refine mm_T.seg (f' := (2, [some (.ref 62), some (.int (y1 + 1))], [])) (h' := (107, (mm_up I 85 y1.toNatClampNeg (I 84 y1.toNatClampNeg)), J, mm_rf rv sp rr w nw)) 2 rfl ?_
      refine mm_T.mask [true, true] ?_
      exact ih (y1 + 1) (mm_up I 85 y1.toNatClampNeg (I 84 y1.toNatClampNeg)) J rv sp rr w nw out e k
    · rw [if_neg h511] at e
      cases e
      refine mm_T.mask [false, false] ?_
      exact k
set_option maxRecDepth 100000 in
set_option maxHeartbeats 4000000 in
theorem tX12_fill (d n : Nat) (I : Nat → Nat → Int32) (J : Nat → Nat → Int64) (rv sp rr w nw : Nat) (out : (Nat → Nat → Int32)) (e : fX12_fill n I = some out) : mm_T none (d + 0) 256 (mm_ent 256 [(.ref 62)]) (107, I, J, mm_rf rv sp rr w nw) (fun v h => v = none ∧ h = (107, out, J, mm_rf rv sp rr w nw)) := by
  unfold fX12_fill at e
  refine mm_T.seg (f' := (2, [some (.ref 62), some (.int 0)], [])) (h' := (107, I, J, mm_rf rv sp rr w nw)) 2 rfl ?_
  refine mm_T.mask [true, true] ?_
  obtain ⟨o514, eo514, e⟩ := mm_bind e
  refine tlX12_fill_L2 d _ n 0 I J rv sp rr w nw o514 eo514 ?_
  cases e
  exact mm_T.ret rfl ⟨rfl, rfl⟩
set_option maxRecDepth 100000 in
set_option maxHeartbeats 4000000 in
theorem tlX12_keepAir_L2 (d : Nat) (Q : Option Value → mm_H → Prop) : ∀ (n : Nat) (y1 : Int32) (I : Nat → Nat → Int32) (J : Nat → Nat → Int64) (rv sp rr w nw : Nat), ∀ (out : (Nat → Nat → Int32)), fX12_keepAir_L2 n y1 I = some out → mm_T none (d + 0) 257 (26, [none, none], []) (107, out, J, mm_rf rv sp rr w nw) Q → mm_T none (d + 0) 257 (2, [some (.ref 62), some (.int y1)], []) (107, I, J, mm_rf rv sp rr w nw) Q := by
  intro n
  induction n with
  | zero =>
    intro y1 I J rv sp rr w nw out e k
    rw [fX12_keepAir_L2] at e; cases e
  | succ n ih =>
    intro y1 I J rv sp rr w nw out e k
    rw [fX12_keepAir_L2] at e
    refine mm_T.seg (f' := (5, [some (.ref 62), some (.int y1)], [(.int 28), (.int y1)])) (h' := (107, I, J, mm_rf rv sp rr w nw)) 2 rfl ?_
    refine mm_T.br (c := y1 < 28) (a := ((8, [some (.ref 62), some (.int y1)], []), (107, I, J, mm_rf rv sp rr w nw))) (b := ((26, [some (.ref 62), some (.int y1)], []), (107, I, J, mm_rf rv sp rr w nw))) rfl (fun h515 => ?_) (fun h515 => ?_)
    · rw [if_pos h515] at e
      refine mm_T.seg (f' := (18, [some (.ref 62), some (.int y1)], [(.int y1), (.ref 85), (.int y1), (.ref 84)])) (h' := (107, I, J, mm_rf rv sp rr w nw)) 6 rfl ?_
      by_cases h516 : y1 < 0 ∨ 28 ≤ y1.toNatClampNeg
      · rw [if_pos h516] at e; cases e
      rw [if_neg h516] at e
      refine mm_T.guard (y := ((19, [some (.ref 62), some (.int y1)], [(.int (I 85 y1.toNatClampNeg)), (.int y1), (.ref 84)]), (107, I, J, mm_rf rv sp rr w nw))) rfl h516 ?_
      by_cases h517 : y1 < 0 ∨ 28 ≤ y1.toNatClampNeg
      · rw [if_pos h517] at e; cases e
      rw [if_neg h517] at e
      refine mm_T.guard (y := ((20, [some (.ref 62), some (.int y1)], []), (107, (mm_up I 84 y1.toNatClampNeg (I 85 y1.toNatClampNeg)), J, mm_rf rv sp rr w nw))) rfl h517 ?_
      refine mm_T.seg (f' := (2, [some (.ref 62), some (.int (y1 + 1))], [])) (h' := (107, (mm_up I 84 y1.toNatClampNeg (I 85 y1.toNatClampNeg)), J, mm_rf rv sp rr w nw)) 2 rfl ?_
      refine mm_T.mask [true, true] ?_
      exact ih (y1 + 1) (mm_up I 84 y1.toNatClampNeg (I 85 y1.toNatClampNeg)) J rv sp rr w nw out e k
    · rw [if_neg h515] at e
      cases e
      refine mm_T.mask [false, false] ?_
      exact k
set_option maxRecDepth 100000 in
set_option maxHeartbeats 4000000 in
theorem tX12_keepAir (d n : Nat) (I : Nat → Nat → Int32) (J : Nat → Nat → Int64) (rv sp rr w nw : Nat) (out : (Nat → Nat → Int32)) (e : fX12_keepAir n I = some out) : mm_T none (d + 0) 257 (mm_ent 257 [(.ref 62)]) (107, I, J, mm_rf rv sp rr w nw) (fun v h => v = none ∧ h = (107, out, J, mm_rf rv sp rr w nw)) := by
  unfold fX12_keepAir at e
  refine mm_T.seg (f' := (2, [some (.ref 62), some (.int 0)], [])) (h' := (107, I, J, mm_rf rv sp rr w nw)) 2 rfl ?_
  refine mm_T.mask [true, true] ?_
  obtain ⟨o518, eo518, e⟩ := mm_bind e
  refine tlX12_keepAir_L2 d _ n 0 I J rv sp rr w nw o518 eo518 ?_
  cases e
  exact mm_T.ret rfl ⟨rfl, rfl⟩
set_option maxRecDepth 100000 in
set_option maxHeartbeats 4000000 in
theorem tX12_currentAt (d : Nat) (x1 : Int32) (x2 : Int32) (I : Nat → Nat → Int32) (J : Nat → Nat → Int64) (rv sp rr w nw : Nat) (out : Int32) (e : fX12_currentAt x1 x2 I = some out) : mm_T none (d + 0) 258 (mm_ent 258 [(.ref 62), (.int x1), (.int x2)]) (107, I, J, mm_rf rv sp rr w nw) (fun v h => v = some (.int out) ∧ h = (107, I, J, mm_rf rv sp rr w nw)) := by
  unfold fX12_currentAt at e
  refine mm_T.seg (f' := (10, [some (.ref 62), some (.int x1), some (.int x2)], [(.int ((8 * x2) + x1)), (.ref 78)])) (h' := (107, I, J, mm_rf rv sp rr w nw)) 7 rfl ?_
  by_cases h519 : ((8 * x2) + x1) < 0 ∨ 56 ≤ ((8 * x2) + x1).toNatClampNeg
  · rw [if_pos h519] at e; cases e
  rw [if_neg h519] at e
  refine mm_T.guard (c := ((8 * x2) + x1) < 0 ∨ 56 ≤ ((8 * x2) + x1).toNatClampNeg) (y := ((11, [some (.ref 62), some (.int x1), some (.int x2)], [(.int (I 78 ((8 * x2) + x1).toNatClampNeg))]), (107, I, J, mm_rf rv sp rr w nw))) (mm_gen (P := fun z => mm_stp none 258 (10, [some (.ref 62), some (.int x1), some (.int x2)], [(.int z), (.ref 78)]) (107, I, J, mm_rf rv sp rr w nw) = if z < 0 ∨ 56 ≤ z.toNatClampNeg then none else some (.inl ((11, [some (.ref 62), some (.int x1), some (.int x2)], [(.int (I 78 z.toNatClampNeg))]), (107, I, J, mm_rf rv sp rr w nw)))) ((8 * x2) + x1) (fun z => rfl)) h519 ?_
  cases e
  exact mm_T.ret rfl ⟨rfl, rfl⟩
set_option maxRecDepth 100000 in
set_option maxHeartbeats 4000000 in
theorem tX12_columnBy (d : Nat) (x1 : Int32) (x2 : Int32) (x3 : Int32) (x4 : Int32) (I : Nat → Nat → Int32) (J : Nat → Nat → Int64) (rv sp rr w nw : Nat) (out : Int32) (e : fX12_columnBy x1 x2 x3 x4 I = some out) : mm_T none (d + 1) 259 (mm_ent 259 [(.ref 62), (.int x1), (.int x2), (.int x3), (.int x4)]) (107, I, J, mm_rf rv sp rr w nw) (fun v h => v = some (.int out) ∧ h = (107, I, J, mm_rf rv sp rr w nw)) := by
  unfold fX12_columnBy at e
  refine mm_T.seg (f' := (8, [some (.ref 62), some (.int x1), some (.int x2), some (.int x3), some (.int x4)], [(.int x2), (.int x1), (.ref 62), (.int x4), (.int (x1 + x3))])) (h' := (107, I, J, mm_rf rv sp rr w nw)) 7 rfl ?_
  obtain ⟨o520, eo520, e⟩ := mm_bind e
  refine mm_T.call (t := 258) (as := [(.ref 62), (.int x1), (.int x2)]) (f' := (11, [some (.ref 62), some (.int x1), some (.int x2), some (.int x3), some (.int x4)], [(.int x4), (.int (x1 + x3))])) rfl (tX12_currentAt (d + 0) x1 x2 I J rv sp rr w nw o520 eo520) (fun v h hq => ?_)
  obtain ⟨rfl, rfl⟩ := hq
  refine mm_T.seg (f' := (19, [some (.ref 62), some (.int x1), some (.int x2), some (.int x3), some (.int x4)], [(.int ((I 62 46) - 1)), (.int ((x1 + x3) + (x4 * o520)))])) (h' := (107, I, J, mm_rf rv sp rr w nw)) 6 rfl ?_
  refine mm_T.call (t := 238) (as := [(.int ((x1 + x3) + (x4 * o520))), (.int ((I 62 46) - 1))]) (f' := (22, [some (.ref 62), some (.int x1), some (.int x2), some (.int x3), some (.int x4)], [])) rfl (tX12_within (d + 0) ((x1 + x3) + (x4 * o520)) ((I 62 46) - 1) I J rv sp rr w nw _ rfl) (fun v h hq => ?_)
  obtain ⟨rfl, rfl⟩ := hq
  cases e
  exact mm_T.ret rfl ⟨rfl, rfl⟩
set_option maxRecDepth 100000 in
set_option maxHeartbeats 4000000 in
theorem tX12_isIron (d : Nat) (x1 : Int32) (x2 : Int32) (I : Nat → Nat → Int32) (J : Nat → Nat → Int64) (rv sp rr w nw : Nat) (out : Int32) (e : fX12_isIron x1 x2 I = some out) : mm_T none (d + 0) 260 (mm_ent 260 [(.ref 62), (.int x1), (.int x2)]) (107, I, J, mm_rf rv sp rr w nw) (fun v h => v = some (.int out) ∧ h = (107, I, J, mm_rf rv sp rr w nw)) := by
  unfold fX12_isIron at e
  refine mm_T.seg (f' := (10, [some (.ref 62), some (.int x1), some (.int x2)], [(.int ((8 * x2) + x1)), (.ref 79)])) (h' := (107, I, J, mm_rf rv sp rr w nw)) 7 rfl ?_
  by_cases h521 : ((8 * x2) + x1) < 0 ∨ 56 ≤ ((8 * x2) + x1).toNatClampNeg
  · rw [if_pos h521] at e; cases e
  rw [if_neg h521] at e
  refine mm_T.guard (c := ((8 * x2) + x1) < 0 ∨ 56 ≤ ((8 * x2) + x1).toNatClampNeg) (y := ((11, [some (.ref 62), some (.int x1), some (.int x2)], [(.int (I 79 ((8 * x2) + x1).toNatClampNeg))]), (107, I, J, mm_rf rv sp rr w nw))) (mm_gen (P := fun z => mm_stp none 260 (10, [some (.ref 62), some (.int x1), some (.int x2)], [(.int z), (.ref 79)]) (107, I, J, mm_rf rv sp rr w nw) = if z < 0 ∨ 56 ≤ z.toNatClampNeg then none else some (.inl ((11, [some (.ref 62), some (.int x1), some (.int x2)], [(.int (I 79 z.toNatClampNeg))]), (107, I, J, mm_rf rv sp rr w nw)))) ((8 * x2) + x1) (fun z => rfl)) h521 ?_
  refine mm_T.seg (f' := (12, [some (.ref 62), some (.int x1), some (.int x2)], [(.int 1), (.int (I 79 ((8 * x2) + x1).toNatClampNeg))])) (h' := (107, I, J, mm_rf rv sp rr w nw)) 1 rfl ?_
  refine mm_T.br (c := (I 79 ((8 * x2) + x1).toNatClampNeg) = 1) (a := ((15, [some (.ref 62), some (.int x1), some (.int x2)], []), (107, I, J, mm_rf rv sp rr w nw))) (b := ((19, [some (.ref 62), some (.int x1), some (.int x2)], []), (107, I, J, mm_rf rv sp rr w nw))) rfl (fun h522 => ?_) (fun h522 => ?_)
  · rw [if_pos h522] at e
    refine mm_T.seg (f' := (20, [some (.ref 62), some (.int x1), some (.int x2)], [(.int 1)])) (h' := (107, I, J, mm_rf rv sp rr w nw)) 2 rfl ?_
    cases e
    exact mm_T.ret rfl ⟨rfl, rfl⟩
  · rw [if_neg h522] at e
    refine mm_T.seg (f' := (20, [some (.ref 62), some (.int x1), some (.int x2)], [(.int 0)])) (h' := (107, I, J, mm_rf rv sp rr w nw)) 1 rfl ?_
    cases e
    exact mm_T.ret rfl ⟨rfl, rfl⟩
set_option maxRecDepth 100000 in
set_option maxHeartbeats 4000000 in
theorem tbX12_goStroke_J185 (d : Nat) (y8 : Int32) (y9 : Int32) (I : Nat → Nat → Int32) (J : Nat → Nat → Int64) (rv sp rr w nw : Nat) (out : Int32 × (Nat → Nat → Int32)) (e : fX12_goStroke_J185 y8 y9 I = some out) : mm_T none (d + 3) 261 (185, [none, none, none, none, none, none, none, none, some (.int y8), some (.int y9)], []) (107, I, J, mm_rf rv sp rr w nw) (fun v h => v = some (.int out.1) ∧ h = (107, out.2, J, mm_rf rv sp rr w nw)) := by
  unfold fX12_goStroke_J185 at e
  refine mm_T.seg (f' := (187, [none, none, none, none, none, none, none, none, some (.int y8), some (.int y9)], [(.int y8)])) (h' := (107, I, J, mm_rf rv sp rr w nw)) 1 rfl ?_
  refine mm_T.call (t := 236) (as := [(.int y8)]) (f' := (190, [none, none, none, none, none, none, none, none, some (.int y8), some (.int y9)], [])) rfl (tX12_truth (d + 2) y8 I J rv sp rr w nw _ rfl) (fun v h hq => ?_)
  obtain ⟨rfl, rfl⟩ := hq
  refine mm_T.seg (f' := (193, [none, none, none, none, none, none, none, none, some (.int y8), some (.int y9)], [(.int y9), (.int 2), (.int (fX12_truth y8))])) (h' := (107, I, J, mm_rf rv sp rr w nw)) 2 rfl ?_
  refine mm_T.call (t := 236) (as := [(.int y9)]) (f' := (196, [none, none, none, none, none, none, none, none, some (.int y8), some (.int y9)], [(.int 2), (.int (fX12_truth y8))])) rfl (tX12_truth (d + 2) y9 I J rv sp rr w nw _ rfl) (fun v h hq => ?_)
  obtain ⟨rfl, rfl⟩ := hq
  refine mm_T.seg (f' := (198, [none, none, none, none, none, none, none, none, some (.int y8), some (.int y9)], [(.int ((fX12_truth y8) + (2 * (fX12_truth y9))))])) (h' := (107, I, J, mm_rf rv sp rr w nw)) 2 rfl ?_
  cases e
  exact mm_T.ret rfl ⟨rfl, rfl⟩
set_option maxRecDepth 100000 in
set_option maxHeartbeats 4000000 in
theorem tbX12_goStroke_J151 (d : Nat) (y1 : Int32) (y8 : Int32) (y9 : Int32) (u0 : Int32) (u1 : Int32) (I : Nat → Nat → Int32) (J : Nat → Nat → Int64) (rv sp rr w nw : Nat) (out : Int32 × (Nat → Nat → Int32)) (e : fX12_goStroke_J151 y1 y8 y9 u0 u1 I = some out) : mm_T none (d + 3) 261 (151, [some (.ref 62), some (.int y1), none, none, none, none, none, none, some (.int y8), some (.int y9)], [(.int u0), (.int u1), (.ref 85)]) (107, I, J, mm_rf rv sp rr w nw) (fun v h => v = some (.int out.1) ∧ h = (107, out.2, J, mm_rf rv sp rr w nw)) := by
  unfold fX12_goStroke_J151 at e
  by_cases h539 : u1 < 0 ∨ 28 ≤ u1.toNatClampNeg
  · rw [if_pos h539] at e; cases e
  rw [if_neg h539] at e
  refine mm_T.guard (y := ((152, [some (.ref 62), some (.int y1), none, none, none, none, none, none, some (.int y8), some (.int y9)], []), (107, (mm_up I 85 u1.toNatClampNeg u0), J, mm_rf rv sp rr w nw))) rfl h539 ?_
  refine mm_T.seg (f' := (154, [some (.ref 62), some (.int y1), none, none, none, none, none, none, some (.int y8), some (.int y9)], [(.int y9)])) (h' := (107, (mm_up I 85 u1.toNatClampNeg u0), J, mm_rf rv sp rr w nw)) 1 rfl ?_
  refine mm_T.br (c := y9 = 0) (a := ((185, [some (.ref 62), some (.int y1), none, none, none, none, none, none, some (.int y8), some (.int y9)], []), (107, (mm_up I 85 u1.toNatClampNeg u0), J, mm_rf rv sp rr w nw))) (b := ((157, [some (.ref 62), some (.int y1), none, none, none, none, none, none, some (.int y8), some (.int y9)], []), (107, (mm_up I 85 u1.toNatClampNeg u0), J, mm_rf rv sp rr w nw))) rfl (fun h540 => ?_) (fun h540 => ?_)
  · rw [if_pos h540] at e
    refine mm_T.mask [false, false, false, false, false, false, false, false, true, true] ?_
    exact tbX12_goStroke_J185 d y8 y9 (mm_up I 85 u1.toNatClampNeg u0) J rv sp rr w nw out e
  · rw [if_neg h540] at e
    refine mm_T.seg (f' := (165, [some (.ref 62), some (.int y1), none, none, none, none, none, none, some (.int y8), some (.int y9)], [(.int (12 + y1)), (.ref 85)])) (h' := (107, (mm_up I 85 u1.toNatClampNeg u0), J, mm_rf rv sp rr w nw)) 5 rfl ?_
    by_cases h541 : (12 + y1) < 0 ∨ 28 ≤ (12 + y1).toNatClampNeg
    · rw [if_pos h541] at e; cases e
    rw [if_neg h541] at e
    refine mm_T.guard (c := (12 + y1) < 0 ∨ 28 ≤ (12 + y1).toNatClampNeg) (y := ((166, [some (.ref 62), some (.int y1), none, none, none, none, none, none, some (.int y8), some (.int y9)], [(.int ((mm_up I 85 u1.toNatClampNeg u0) 85 (12 + y1).toNatClampNeg))]), (107, (mm_up I 85 u1.toNatClampNeg u0), J, mm_rf rv sp rr w nw))) (mm_gen (P := fun z => mm_stp none 261 (165, [some (.ref 62), some (.int y1), none, none, none, none, none, none, some (.int y8), some (.int y9)], [(.int z), (.ref 85)]) (107, (mm_up I 85 u1.toNatClampNeg u0), J, mm_rf rv sp rr w nw) = if z < 0 ∨ 28 ≤ z.toNatClampNeg then none else some (.inl ((166, [some (.ref 62), some (.int y1), none, none, none, none, none, none, some (.int y8), some (.int y9)], [(.int ((mm_up I 85 u1.toNatClampNeg u0) 85 z.toNatClampNeg))]), (107, (mm_up I 85 u1.toNatClampNeg u0), J, mm_rf rv sp rr w nw)))) (12 + y1) (fun z => rfl)) h541 ?_
    refine mm_T.seg (f' := (169, [some (.ref 62), some (.int y1), none, none, none, none, none, none, some (.int y8), some (.int y9)], [(.int 999), (.int ((mm_up I 85 u1.toNatClampNeg u0) 85 (12 + y1).toNatClampNeg))])) (h' := (107, (mm_up I 85 u1.toNatClampNeg u0), J, mm_rf rv sp rr w nw)) 1 rfl ?_
    refine mm_T.br (c := ((mm_up I 85 u1.toNatClampNeg u0) 85 (12 + y1).toNatClampNeg) < 999) (a := ((172, [some (.ref 62), some (.int y1), none, none, none, none, none, none, some (.int y8), some (.int y9)], []), (107, (mm_up I 85 u1.toNatClampNeg u0), J, mm_rf rv sp rr w nw))) (b := ((185, [some (.ref 62), some (.int y1), none, none, none, none, none, none, some (.int y8), some (.int y9)], []), (107, (mm_up I 85 u1.toNatClampNeg u0), J, mm_rf rv sp rr w nw))) rfl (fun h542 => ?_) (fun h542 => ?_)
    · rw [if_pos h542] at e
      refine mm_T.seg (f' := (181, [some (.ref 62), some (.int y1), none, none, none, none, none, none, some (.int y8), some (.int y9)], [(.int (12 + y1)), (.ref 85), (.int (12 + y1)), (.ref 85)])) (h' := (107, (mm_up I 85 u1.toNatClampNeg u0), J, mm_rf rv sp rr w nw)) 6 rfl ?_
      by_cases h543 : (12 + y1) < 0 ∨ 28 ≤ (12 + y1).toNatClampNeg
      · rw [if_pos h543] at e; cases e
      rw [if_neg h543] at e
      refine mm_T.guard (c := (12 + y1) < 0 ∨ 28 ≤ (12 + y1).toNatClampNeg) (y := ((182, [some (.ref 62), some (.int y1), none, none, none, none, none, none, some (.int y8), some (.int y9)], [(.int ((mm_up I 85 u1.toNatClampNeg u0) 85 (12 + y1).toNatClampNeg)), (.int (12 + y1)), (.ref 85)]), (107, (mm_up I 85 u1.toNatClampNeg u0), J, mm_rf rv sp rr w nw))) (mm_gen (P := fun z => mm_stp none 261 (181, [some (.ref 62), some (.int y1), none, none, none, none, none, none, some (.int y8), some (.int y9)], [(.int z), (.ref 85), (.int z), (.ref 85)]) (107, (mm_up I 85 u1.toNatClampNeg u0), J, mm_rf rv sp rr w nw) = if z < 0 ∨ 28 ≤ z.toNatClampNeg then none else some (.inl ((182, [some (.ref 62), some (.int y1), none, none, none, none, none, none, some (.int y8), some (.int y9)], [(.int ((mm_up I 85 u1.toNatClampNeg u0) 85 z.toNatClampNeg)), (.int z), (.ref 85)]), (107, (mm_up I 85 u1.toNatClampNeg u0), J, mm_rf rv sp rr w nw)))) (12 + y1) (fun z => rfl)) h543 ?_
      refine mm_T.seg (f' := (184, [some (.ref 62), some (.int y1), none, none, none, none, none, none, some (.int y8), some (.int y9)], [(.int (((mm_up I 85 u1.toNatClampNeg u0) 85 (12 + y1).toNatClampNeg) + 1)), (.int (12 + y1)), (.ref 85)])) (h' := (107, (mm_up I 85 u1.toNatClampNeg u0), J, mm_rf rv sp rr w nw)) 2 rfl ?_
      by_cases h544 : (12 + y1) < 0 ∨ 28 ≤ (12 + y1).toNatClampNeg
      · rw [if_pos h544] at e; cases e
      rw [if_neg h544] at e
      refine mm_T.guard (c := (12 + y1) < 0 ∨ 28 ≤ (12 + y1).toNatClampNeg) (y := ((185, [some (.ref 62), some (.int y1), none, none, none, none, none, none, some (.int y8), some (.int y9)], []), (107, (mm_up (mm_up I 85 u1.toNatClampNeg u0) 85 (12 + y1).toNatClampNeg (((mm_up I 85 u1.toNatClampNeg u0) 85 (12 + y1).toNatClampNeg) + 1)), J, mm_rf rv sp rr w nw))) (mm_gen (P := fun z => mm_stp none 261 (184, [some (.ref 62), some (.int y1), none, none, none, none, none, none, some (.int y8), some (.int y9)], [(.int (((mm_up I 85 u1.toNatClampNeg u0) 85 z.toNatClampNeg) + 1)), (.int z), (.ref 85)]) (107, (mm_up I 85 u1.toNatClampNeg u0), J, mm_rf rv sp rr w nw) = if z < 0 ∨ 28 ≤ z.toNatClampNeg then none else some (.inl ((185, [some (.ref 62), some (.int y1), none, none, none, none, none, none, some (.int y8), some (.int y9)], []), (107, (mm_up (mm_up I 85 u1.toNatClampNeg u0) 85 z.toNatClampNeg (((mm_up I 85 u1.toNatClampNeg u0) 85 z.toNatClampNeg) + 1)), J, mm_rf rv sp rr w nw)))) (12 + y1) (fun z => rfl)) h544 ?_
      refine mm_T.mask [false, false, false, false, false, false, false, false, true, true] ?_
      exact tbX12_goStroke_J185 d y8 y9 (mm_up (mm_up I 85 u1.toNatClampNeg u0) 85 (12 + y1).toNatClampNeg (((mm_up I 85 u1.toNatClampNeg u0) 85 (12 + y1).toNatClampNeg) + 1)) J rv sp rr w nw out e
    · rw [if_neg h542] at e
      refine mm_T.mask [false, false, false, false, false, false, false, false, true, true] ?_
      exact tbX12_goStroke_J185 d y8 y9 (mm_up I 85 u1.toNatClampNeg u0) J rv sp rr w nw out e
set_option maxRecDepth 100000 in
set_option maxHeartbeats 4000000 in
theorem tbX12_goStroke_J130 (d : Nat) (y1 : Int32) (y7 : Int32) (y8 : Int32) (u0 : Int32) (I : Nat → Nat → Int32) (J : Nat → Nat → Int64) (rv sp rr w nw : Nat) (out : Int32 × (Nat → Nat → Int32)) (e : fX12_goStroke_J130 y1 y7 y8 u0 I = some out) : mm_T none (d + 3) 261 (130, [some (.ref 62), some (.int y1), none, none, none, none, none, some (.int y7), some (.int y8), none], [(.int u0)]) (107, I, J, mm_rf rv sp rr w nw) (fun v h => v = some (.int out.1) ∧ h = (107, out.2, J, mm_rf rv sp rr w nw)) := by
  unfold fX12_goStroke_J130 at e
  refine mm_T.seg (f' := (142, [some (.ref 62), some (.int y1), none, none, none, none, none, some (.int y7), some (.int y8), some (.int u0)], [(.int u0), (.int (8 + y1)), (.ref 85)])) (h' := (107, I, J, mm_rf rv sp rr w nw)) 7 rfl ?_
  refine mm_T.br (c := u0 = 0) (a := ((149, [some (.ref 62), some (.int y1), none, none, none, none, none, some (.int y7), some (.int y8), some (.int u0)], [(.int (8 + y1)), (.ref 85)]), (107, I, J, mm_rf rv sp rr w nw))) (b := ((145, [some (.ref 62), some (.int y1), none, none, none, none, none, some (.int y7), some (.int y8), some (.int u0)], [(.int (8 + y1)), (.ref 85)]), (107, I, J, mm_rf rv sp rr w nw))) rfl (fun h538 => ?_) (fun h538 => ?_)
  · rw [if_pos h538] at e
    refine mm_T.seg (f' := (151, [some (.ref 62), some (.int y1), none, none, none, none, none, some (.int y7), some (.int y8), some (.int u0)], [(.int y7), (.int (8 + y1)), (.ref 85)])) (h' := (107, I, J, mm_rf rv sp rr w nw)) 1 rfl ?_
    refine mm_T.mask [true, true, false, false, false, false, false, false, true, true] ?_
    exact tbX12_goStroke_J151 d y1 y8 u0 y7 (8 + y1) I J rv sp rr w nw out e
  · rw [if_neg h538] at e
    refine mm_T.seg (f' := (151, [some (.ref 62), some (.int y1), none, none, none, none, none, some (.int y7), some (.int y8), some (.int u0)], [(.int 0), (.int (8 + y1)), (.ref 85)])) (h' := (107, I, J, mm_rf rv sp rr w nw)) 2 rfl ?_
    refine mm_T.mask [true, true, false, false, false, false, false, false, true, true] ?_
    exact tbX12_goStroke_J151 d y1 y8 u0 0 (8 + y1) I J rv sp rr w nw out e
set_option maxRecDepth 100000 in
set_option maxHeartbeats 4000000 in
theorem tbX12_goStroke_J112 (d : Nat) (y1 : Int32) (y8 : Int32) (u0 : Int32) (I : Nat → Nat → Int32) (J : Nat → Nat → Int64) (rv sp rr w nw : Nat) (out : Int32 × (Nat → Nat → Int32)) (e : fX12_goStroke_J112 y1 y8 u0 I = some out) : mm_T none (d + 3) 261 (112, [some (.ref 62), some (.int y1), none, none, none, none, none, none, some (.int y8), none], [(.int u0)]) (107, I, J, mm_rf rv sp rr w nw) (fun v h => v = some (.int out.1) ∧ h = (107, out.2, J, mm_rf rv sp rr w nw)) := by
  unfold fX12_goStroke_J112 at e
  refine mm_T.seg (f' := (121, [some (.ref 62), some (.int y1), none, none, none, none, none, some (.int u0), some (.int y8), none], [(.int y1), (.ref 82), (.int u0)])) (h' := (107, I, J, mm_rf rv sp rr w nw)) 5 rfl ?_
  by_cases h536 : y1 < 0 ∨ 4 ≤ y1.toNatClampNeg
  · rw [if_pos h536] at e; cases e
  rw [if_neg h536] at e
  refine mm_T.guard (y := ((122, [some (.ref 62), some (.int y1), none, none, none, none, none, some (.int u0), some (.int y8), none], [(.int (I 82 y1.toNatClampNeg)), (.int u0)]), (107, I, J, mm_rf rv sp rr w nw))) rfl h536 ?_
  refine mm_T.br (c := (I 82 y1.toNatClampNeg) < u0) (a := ((125, [some (.ref 62), some (.int y1), none, none, none, none, none, some (.int u0), some (.int y8), none], []), (107, I, J, mm_rf rv sp rr w nw))) (b := ((129, [some (.ref 62), some (.int y1), none, none, none, none, none, some (.int u0), some (.int y8), none], []), (107, I, J, mm_rf rv sp rr w nw))) rfl (fun h537 => ?_) (fun h537 => ?_)
  · rw [if_pos h537] at e
    refine mm_T.seg (f' := (130, [some (.ref 62), some (.int y1), none, none, none, none, none, some (.int u0), some (.int y8), none], [(.int 1)])) (h' := (107, I, J, mm_rf rv sp rr w nw)) 2 rfl ?_
    refine mm_T.mask [true, true, false, false, false, false, false, true, true, false] ?_
    exact tbX12_goStroke_J130 d y1 u0 y8 1 I J rv sp rr w nw out e
  · rw [if_neg h537] at e
    refine mm_T.seg (f' := (130, [some (.ref 62), some (.int y1), none, none, none, none, none, some (.int u0), some (.int y8), none], [(.int 0)])) (h' := (107, I, J, mm_rf rv sp rr w nw)) 1 rfl ?_
    refine mm_T.mask [true, true, false, false, false, false, false, true, true, false] ?_
    exact tbX12_goStroke_J130 d y1 u0 y8 0 I J rv sp rr w nw out e
set_option maxRecDepth 100000 in
set_option maxHeartbeats 4000000 in
theorem tbX12_goStroke_J85 (d : Nat) (y1 : Int32) (y7 : Int32) (y8 : Int32) (I : Nat → Nat → Int32) (J : Nat → Nat → Int64) (rv sp rr w nw : Nat) (out : Int32 × (Nat → Nat → Int32)) (e : fX12_goStroke_J85 y1 y7 y8 I = some out) : mm_T none (d + 3) 261 (85, [some (.ref 62), some (.int y1), none, none, none, none, none, some (.int y7), some (.int y8), none], []) (107, I, J, mm_rf rv sp rr w nw) (fun v h => v = some (.int out.1) ∧ h = (107, out.2, J, mm_rf rv sp rr w nw)) := by
  unfold fX12_goStroke_J85 at e
  refine mm_T.seg (f' := (94, [some (.ref 62), some (.int y1), none, none, none, none, none, some (.int y7), some (.int y8), none], [(.int (16 + y1)), (.ref 85), (.int (16 + y1)), (.ref 85)])) (h' := (107, I, J, mm_rf rv sp rr w nw)) 6 rfl ?_
  by_cases h533 : (16 + y1) < 0 ∨ 28 ≤ (16 + y1).toNatClampNeg
  · rw [if_pos h533] at e; cases e
  rw [if_neg h533] at e
  refine mm_T.guard (c := (16 + y1) < 0 ∨ 28 ≤ (16 + y1).toNatClampNeg) (y := ((95, [some (.ref 62), some (.int y1), none, none, none, none, none, some (.int y7), some (.int y8), none], [(.int (I 85 (16 + y1).toNatClampNeg)), (.int (16 + y1)), (.ref 85)]), (107, I, J, mm_rf rv sp rr w nw))) (mm_gen (P := fun z => mm_stp none 261 (94, [some (.ref 62), some (.int y1), none, none, none, none, none, some (.int y7), some (.int y8), none], [(.int z), (.ref 85), (.int z), (.ref 85)]) (107, I, J, mm_rf rv sp rr w nw) = if z < 0 ∨ 28 ≤ z.toNatClampNeg then none else some (.inl ((95, [some (.ref 62), some (.int y1), none, none, none, none, none, some (.int y7), some (.int y8), none], [(.int (I 85 z.toNatClampNeg)), (.int z), (.ref 85)]), (107, I, J, mm_rf rv sp rr w nw)))) (16 + y1) (fun z => rfl)) h533 ?_
  refine mm_T.seg (f' := (97, [some (.ref 62), some (.int y1), none, none, none, none, none, some (.int y7), some (.int y8), none], [(.int ((I 85 (16 + y1).toNatClampNeg) + 1)), (.int (16 + y1)), (.ref 85)])) (h' := (107, I, J, mm_rf rv sp rr w nw)) 2 rfl ?_
  by_cases h534 : (16 + y1) < 0 ∨ 28 ≤ (16 + y1).toNatClampNeg
  · rw [if_pos h534] at e; cases e
  rw [if_neg h534] at e
  refine mm_T.guard (c := (16 + y1) < 0 ∨ 28 ≤ (16 + y1).toNatClampNeg) (y := ((98, [some (.ref 62), some (.int y1), none, none, none, none, none, some (.int y7), some (.int y8), none], []), (107, (mm_up I 85 (16 + y1).toNatClampNeg ((I 85 (16 + y1).toNatClampNeg) + 1)), J, mm_rf rv sp rr w nw))) (mm_gen (P := fun z => mm_stp none 261 (97, [some (.ref 62), some (.int y1), none, none, none, none, none, some (.int y7), some (.int y8), none], [(.int ((I 85 z.toNatClampNeg) + 1)), (.int z), (.ref 85)]) (107, I, J, mm_rf rv sp rr w nw) = if z < 0 ∨ 28 ≤ z.toNatClampNeg then none else some (.inl ((98, [some (.ref 62), some (.int y1), none, none, none, none, none, some (.int y7), some (.int y8), none], []), (107, (mm_up I 85 z.toNatClampNeg ((I 85 z.toNatClampNeg) + 1)), J, mm_rf rv sp rr w nw)))) (16 + y1) (fun z => rfl)) h534 ?_
  refine mm_T.seg (f' := (102, [some (.ref 62), some (.int y1), none, none, none, none, none, some (.int y7), some (.int y8), none], [(.int 99), (.int y7)])) (h' := (107, (mm_up I 85 (16 + y1).toNatClampNeg ((I 85 (16 + y1).toNatClampNeg) + 1)), J, mm_rf rv sp rr w nw)) 2 rfl ?_
  refine mm_T.br (c := 99 < y7) (a := ((105, [some (.ref 62), some (.int y1), none, none, none, none, none, some (.int y7), some (.int y8), none], []), (107, (mm_up I 85 (16 + y1).toNatClampNeg ((I 85 (16 + y1).toNatClampNeg) + 1)), J, mm_rf rv sp rr w nw))) (b := ((110, [some (.ref 62), some (.int y1), none, none, none, none, none, some (.int y7), some (.int y8), none], []), (107, (mm_up I 85 (16 + y1).toNatClampNeg ((I 85 (16 + y1).toNatClampNeg) + 1)), J, mm_rf rv sp rr w nw))) rfl (fun h535 => ?_) (fun h535 => ?_)
  · rw [if_pos h535] at e
    refine mm_T.seg (f' := (112, [some (.ref 62), some (.int y1), none, none, none, none, none, some (.int y7), some (.int y8), none], [(.int 99)])) (h' := (107, (mm_up I 85 (16 + y1).toNatClampNeg ((I 85 (16 + y1).toNatClampNeg) + 1)), J, mm_rf rv sp rr w nw)) 2 rfl ?_
    refine mm_T.mask [true, true, false, false, false, false, false, false, true, false] ?_
    exact tbX12_goStroke_J112 d y1 y8 99 (mm_up I 85 (16 + y1).toNatClampNeg ((I 85 (16 + y1).toNatClampNeg) + 1)) J rv sp rr w nw out e
  · rw [if_neg h535] at e
    refine mm_T.seg (f' := (112, [some (.ref 62), some (.int y1), none, none, none, none, none, some (.int y7), some (.int y8), none], [(.int y7)])) (h' := (107, (mm_up I 85 (16 + y1).toNatClampNeg ((I 85 (16 + y1).toNatClampNeg) + 1)), J, mm_rf rv sp rr w nw)) 1 rfl ?_
    refine mm_T.mask [true, true, false, false, false, false, false, false, true, false] ?_
    exact tbX12_goStroke_J112 d y1 y8 y7 (mm_up I 85 (16 + y1).toNatClampNeg ((I 85 (16 + y1).toNatClampNeg) + 1)) J rv sp rr w nw out e
set_option maxRecDepth 100000 in
set_option maxHeartbeats 4000000 in
theorem tX12_goStroke (d n : Nat) (x1 : Int32) (x2 : Int32) (x3 : Int32) (x4 : Int32) (I : Nat → Nat → Int32) (J : Nat → Nat → Int64) (rv sp rr w nw : Nat) (out : Int32 × (Nat → Nat → Int32)) (e : fX12_goStroke n x1 x2 x3 x4 I = some out) : mm_T none (d + 3) 261 (mm_ent 261 [(.ref 62), (.int x1), (.int x2), (.int x3), (.int x4)]) (107, I, J, mm_rf rv sp rr w nw) (fun v h => v = some (.int out.1) ∧ h = (107, out.2, J, mm_rf rv sp rr w nw)) := by
  unfold fX12_goStroke at e
  refine mm_T.seg (f' := (7, [some (.ref 62), some (.int x1), some (.int x2), some (.int x3), some (.int x4), none, none, none, none, none], [(.int (4 + x1)), (.ref 85)])) (h' := (107, I, J, mm_rf rv sp rr w nw)) 5 rfl ?_
  by_cases h523 : (4 + x1) < 0 ∨ 28 ≤ (4 + x1).toNatClampNeg
  · rw [if_pos h523] at e; cases e
  rw [if_neg h523] at e
  refine mm_T.guard (c := (4 + x1) < 0 ∨ 28 ≤ (4 + x1).toNatClampNeg) (y := ((8, [some (.ref 62), some (.int x1), some (.int x2), some (.int x3), some (.int x4), none, none, none, none, none], [(.int (I 85 (4 + x1).toNatClampNeg))]), (107, I, J, mm_rf rv sp rr w nw))) (mm_gen (P := fun z => mm_stp none 261 (7, [some (.ref 62), some (.int x1), some (.int x2), some (.int x3), some (.int x4), none, none, none, none, none], [(.int z), (.ref 85)]) (107, I, J, mm_rf rv sp rr w nw) = if z < 0 ∨ 28 ≤ z.toNatClampNeg then none else some (.inl ((8, [some (.ref 62), some (.int x1), some (.int x2), some (.int x3), some (.int x4), none, none, none, none, none], [(.int (I 85 z.toNatClampNeg))]), (107, I, J, mm_rf rv sp rr w nw)))) (4 + x1) (fun z => rfl)) h523 ?_
  refine mm_T.seg (f' := (18, [some (.ref 62), some (.int x1), some (.int x2), some (.int x3), some (.int x4), some (.int ((I 85 (4 + x1).toNatClampNeg) + x3)), none, none, none, none], [(.int x1), (.ref 85), (.ref 62)])) (h' := (107, I, J, mm_rf rv sp rr w nw)) 7 rfl ?_
  by_cases h524 : x1 < 0 ∨ 28 ≤ x1.toNatClampNeg
  · rw [if_pos h524] at e; cases e
  rw [if_neg h524] at e
  refine mm_T.guard (y := ((19, [some (.ref 62), some (.int x1), some (.int x2), some (.int x3), some (.int x4), some (.int ((I 85 (4 + x1).toNatClampNeg) + x3)), none, none, none, none], [(.int (I 85 x1.toNatClampNeg)), (.ref 62)]), (107, I, J, mm_rf rv sp rr w nw))) rfl h524 ?_
  refine mm_T.seg (f' := (26, [some (.ref 62), some (.int x1), some (.int x2), some (.int x3), some (.int x4), some (.int ((I 85 (4 + x1).toNatClampNeg) + x3)), none, none, none, none], [(.int (4 + x1)), (.ref 85), (.int (I 85 x1.toNatClampNeg)), (.ref 62)])) (h' := (107, I, J, mm_rf rv sp rr w nw)) 5 rfl ?_
  by_cases h525 : (4 + x1) < 0 ∨ 28 ≤ (4 + x1).toNatClampNeg
  · rw [if_pos h525] at e; cases e
  rw [if_neg h525] at e
  refine mm_T.guard (c := (4 + x1) < 0 ∨ 28 ≤ (4 + x1).toNatClampNeg) (y := ((27, [some (.ref 62), some (.int x1), some (.int x2), some (.int x3), some (.int x4), some (.int ((I 85 (4 + x1).toNatClampNeg) + x3)), none, none, none, none], [(.int (I 85 (4 + x1).toNatClampNeg)), (.int (I 85 x1.toNatClampNeg)), (.ref 62)]), (107, I, J, mm_rf rv sp rr w nw))) (mm_gen (P := fun z => mm_stp none 261 (26, [some (.ref 62), some (.int x1), some (.int x2), some (.int x3), some (.int x4), some (.int ((I 85 z.toNatClampNeg) + x3)), none, none, none, none], [(.int z), (.ref 85), (.int (I 85 x1.toNatClampNeg)), (.ref 62)]) (107, I, J, mm_rf rv sp rr w nw) = if z < 0 ∨ 28 ≤ z.toNatClampNeg then none else some (.inl ((27, [some (.ref 62), some (.int x1), some (.int x2), some (.int x3), some (.int x4), some (.int ((I 85 z.toNatClampNeg) + x3)), none, none, none, none], [(.int (I 85 z.toNatClampNeg)), (.int (I 85 x1.toNatClampNeg)), (.ref 62)]), (107, I, J, mm_rf rv sp rr w nw)))) (4 + x1) (fun z => rfl)) h525 ?_
  refine mm_T.seg (f' := (30, [some (.ref 62), some (.int x1), some (.int x2), some (.int x3), some (.int x4), some (.int ((I 85 (4 + x1).toNatClampNeg) + x3)), none, none, none, none], [(.int x4), (.int x2), (.int (I 85 (4 + x1).toNatClampNeg)), (.int (I 85 x1.toNatClampNeg)), (.ref 62)])) (h' := (107, I, J, mm_rf rv sp rr w nw)) 2 rfl ?_
  obtain ⟨o526, eo526, e⟩ := mm_bind e
  refine mm_T.call (t := 259) (as := [(.ref 62), (.int (I 85 x1.toNatClampNeg)), (.int (I 85 (4 + x1).toNatClampNeg)), (.int x2), (.int x4)]) (f' := (33, [some (.ref 62), some (.int x1), some (.int x2), some (.int x3), some (.int x4), some (.int ((I 85 (4 + x1).toNatClampNeg) + x3)), none, none, none, none], [])) rfl (tX12_columnBy (d + 1) (I 85 x1.toNatClampNeg) (I 85 (4 + x1).toNatClampNeg) x2 x4 I J rv sp rr w nw o526 eo526) (fun v h hq => ?_)
  obtain ⟨rfl, rfl⟩ := hq
  refine mm_T.seg (f' := (43, [some (.ref 62), some (.int x1), some (.int x2), some (.int x3), some (.int x4), some (.int ((I 85 (4 + x1).toNatClampNeg) + x3)), some (.int o526), none, none, none], [(.int (8 + x1)), (.ref 85)])) (h' := (107, I, J, mm_rf rv sp rr w nw)) 6 rfl ?_
  by_cases h527 : (8 + x1) < 0 ∨ 28 ≤ (8 + x1).toNatClampNeg
  · rw [if_pos h527] at e; cases e
  rw [if_neg h527] at e
  refine mm_T.guard (c := (8 + x1) < 0 ∨ 28 ≤ (8 + x1).toNatClampNeg) (y := ((44, [some (.ref 62), some (.int x1), some (.int x2), some (.int x3), some (.int x4), some (.int ((I 85 (4 + x1).toNatClampNeg) + x3)), some (.int o526), none, none, none], [(.int (I 85 (8 + x1).toNatClampNeg))]), (107, I, J, mm_rf rv sp rr w nw))) (mm_gen (P := fun z => mm_stp none 261 (43, [some (.ref 62), some (.int x1), some (.int x2), some (.int x3), some (.int x4), some (.int ((I 85 (4 + x1).toNatClampNeg) + x3)), some (.int o526), none, none, none], [(.int z), (.ref 85)]) (107, I, J, mm_rf rv sp rr w nw) = if z < 0 ∨ 28 ≤ z.toNatClampNeg then none else some (.inl ((44, [some (.ref 62), some (.int x1), some (.int x2), some (.int x3), some (.int x4), some (.int ((I 85 (4 + x1).toNatClampNeg) + x3)), some (.int o526), none, none, none], [(.int (I 85 z.toNatClampNeg))]), (107, I, J, mm_rf rv sp rr w nw)))) (8 + x1) (fun z => rfl)) h527 ?_
  refine mm_T.seg (f' := (46, [some (.ref 62), some (.int x1), some (.int x2), some (.int x3), some (.int x4), some (.int ((I 85 (4 + x1).toNatClampNeg) + x3)), some (.int o526), none, none, none], [(.int x1), (.ref 62), (.int (I 85 (8 + x1).toNatClampNeg))])) (h' := (107, I, J, mm_rf rv sp rr w nw)) 2 rfl ?_
  obtain ⟨o528, eo528, e⟩ := mm_bind e
  refine mm_T.call (t := 241) (as := [(.ref 62), (.int x1)]) (f' := (49, [some (.ref 62), some (.int x1), some (.int x2), some (.int x3), some (.int x4), some (.int ((I 85 (4 + x1).toNatClampNeg) + x3)), some (.int o526), none, none, none], [(.int (I 85 (8 + x1).toNatClampNeg))])) rfl (tX12_hotterOf (d + 0) n x1 I J rv sp rr w nw o528 eo528) (fun v h hq => ?_)
  obtain ⟨rfl, rfl⟩ := hq
  refine mm_T.seg (f' := (57, [some (.ref 62), some (.int x1), some (.int x2), some (.int x3), some (.int x4), some (.int ((I 85 (4 + x1).toNatClampNeg) + x3)), some (.int o526), some (.int ((I 85 (8 + x1).toNatClampNeg) + o528.1)), none, none], [(.int ((I 85 (4 + x1).toNatClampNeg) + x3)), (.int o526), (.ref 62)])) (h' := (107, o528.2, J, mm_rf rv sp rr w nw)) 5 rfl ?_
  obtain ⟨o529, eo529, e⟩ := mm_bind e
  refine mm_T.call (t := 260) (as := [(.ref 62), (.int o526), (.int ((I 85 (4 + x1).toNatClampNeg) + x3))]) (f' := (60, [some (.ref 62), some (.int x1), some (.int x2), some (.int x3), some (.int x4), some (.int ((I 85 (4 + x1).toNatClampNeg) + x3)), some (.int o526), some (.int ((I 85 (8 + x1).toNatClampNeg) + o528.1)), none, none], [])) rfl (tX12_isIron (d + 2) o526 ((I 85 (4 + x1).toNatClampNeg) + x3) o528.2 J rv sp rr w nw o529 eo529) (fun v h hq => ?_)
  obtain ⟨rfl, rfl⟩ := hq
  refine mm_T.seg (f' := (64, [some (.ref 62), some (.int x1), some (.int x2), some (.int x3), some (.int x4), some (.int ((I 85 (4 + x1).toNatClampNeg) + x3)), some (.int o526), some (.int ((I 85 (8 + x1).toNatClampNeg) + o528.1)), some (.int o529), none], [(.int o529)])) (h' := (107, o528.2, J, mm_rf rv sp rr w nw)) 2 rfl ?_
  refine mm_T.br (c := o529 = 0) (a := ((67, [some (.ref 62), some (.int x1), some (.int x2), some (.int x3), some (.int x4), some (.int ((I 85 (4 + x1).toNatClampNeg) + x3)), some (.int o526), some (.int ((I 85 (8 + x1).toNatClampNeg) + o528.1)), some (.int o529), none], []), (107, o528.2, J, mm_rf rv sp rr w nw))) (b := ((85, [some (.ref 62), some (.int x1), some (.int x2), some (.int x3), some (.int x4), some (.int ((I 85 (4 + x1).toNatClampNeg) + x3)), some (.int o526), some (.int ((I 85 (8 + x1).toNatClampNeg) + o528.1)), some (.int o529), none], []), (107, o528.2, J, mm_rf rv sp rr w nw))) rfl (fun h530 => ?_) (fun h530 => ?_)
  · rw [if_pos h530] at e
    refine mm_T.seg (f' := (74, [some (.ref 62), some (.int x1), some (.int x2), some (.int x3), some (.int x4), some (.int ((I 85 (4 + x1).toNatClampNeg) + x3)), some (.int o526), some (.int ((I 85 (8 + x1).toNatClampNeg) + o528.1)), some (.int o529), none], [(.int o526), (.int x1), (.ref 85)])) (h' := (107, o528.2, J, mm_rf rv sp rr w nw)) 4 rfl ?_
    by_cases h531 : x1 < 0 ∨ 28 ≤ x1.toNatClampNeg
    · rw [if_pos h531] at e; cases e
    rw [if_neg h531] at e
    refine mm_T.guard (y := ((75, [some (.ref 62), some (.int x1), some (.int x2), some (.int x3), some (.int x4), some (.int ((I 85 (4 + x1).toNatClampNeg) + x3)), some (.int o526), some (.int ((I 85 (8 + x1).toNatClampNeg) + o528.1)), some (.int o529), none], []), (107, (mm_up o528.2 85 x1.toNatClampNeg o526), J, mm_rf rv sp rr w nw))) rfl h531 ?_
    refine mm_T.seg (f' := (84, [some (.ref 62), some (.int x1), some (.int x2), some (.int x3), some (.int x4), some (.int ((I 85 (4 + x1).toNatClampNeg) + x3)), some (.int o526), some (.int ((I 85 (8 + x1).toNatClampNeg) + o528.1)), some (.int o529), none], [(.int ((I 85 (4 + x1).toNatClampNeg) + x3)), (.int (4 + x1)), (.ref 85)])) (h' := (107, (mm_up o528.2 85 x1.toNatClampNeg o526), J, mm_rf rv sp rr w nw)) 6 rfl ?_
    by_cases h532 : (4 + x1) < 0 ∨ 28 ≤ (4 + x1).toNatClampNeg
    · rw [if_pos h532] at e; cases e
    rw [if_neg h532] at e
    refine mm_T.guard (c := (4 + x1) < 0 ∨ 28 ≤ (4 + x1).toNatClampNeg) (y := ((85, [some (.ref 62), some (.int x1), some (.int x2), some (.int x3), some (.int x4), some (.int ((I 85 (4 + x1).toNatClampNeg) + x3)), some (.int o526), some (.int ((I 85 (8 + x1).toNatClampNeg) + o528.1)), some (.int o529), none], []), (107, (mm_up (mm_up o528.2 85 x1.toNatClampNeg o526) 85 (4 + x1).toNatClampNeg ((I 85 (4 + x1).toNatClampNeg) + x3)), J, mm_rf rv sp rr w nw))) (mm_gen (P := fun z => mm_stp none 261 (84, [some (.ref 62), some (.int x1), some (.int x2), some (.int x3), some (.int x4), some (.int ((I 85 z.toNatClampNeg) + x3)), some (.int o526), some (.int ((I 85 (8 + x1).toNatClampNeg) + o528.1)), some (.int o529), none], [(.int ((I 85 z.toNatClampNeg) + x3)), (.int z), (.ref 85)]) (107, (mm_up o528.2 85 x1.toNatClampNeg o526), J, mm_rf rv sp rr w nw) = if z < 0 ∨ 28 ≤ z.toNatClampNeg then none else some (.inl ((85, [some (.ref 62), some (.int x1), some (.int x2), some (.int x3), some (.int x4), some (.int ((I 85 z.toNatClampNeg) + x3)), some (.int o526), some (.int ((I 85 (8 + x1).toNatClampNeg) + o528.1)), some (.int o529), none], []), (107, (mm_up (mm_up o528.2 85 x1.toNatClampNeg o526) 85 z.toNatClampNeg ((I 85 z.toNatClampNeg) + x3)), J, mm_rf rv sp rr w nw)))) (4 + x1) (fun z => rfl)) h532 ?_
    refine mm_T.mask [true, true, false, false, false, false, false, true, true, false] ?_
    exact tbX12_goStroke_J85 d x1 ((I 85 (8 + x1).toNatClampNeg) + o528.1) o529 (mm_up (mm_up o528.2 85 x1.toNatClampNeg o526) 85 (4 + x1).toNatClampNeg ((I 85 (4 + x1).toNatClampNeg) + x3)) J rv sp rr w nw out e
  · rw [if_neg h530] at e
    refine mm_T.mask [true, true, false, false, false, false, false, true, true, false] ?_
    exact tbX12_goStroke_J85 d x1 ((I 85 (8 + x1).toNatClampNeg) + o528.1) o529 o528.2 J rv sp rr w nw out e
set_option maxRecDepth 100000 in
set_option maxHeartbeats 4000000 in
theorem tlX12_loadsAt_L4 (d : Nat) (Q : Option Value → mm_H → Prop) : ∀ (n : Nat) (y1 : Int32) (y2 : Int32) (y3 : Int32) (I : Nat → Nat → Int32) (J : Nat → Nat → Int64) (rv sp rr w nw : Nat), ∀ (out : Int32), fX12_loadsAt_L4 n y1 y2 y3 I = some out → mm_T none (d + 1) 262 (44, [none, none, some (.int out), none], []) (107, I, J, mm_rf rv sp rr w nw) Q → mm_T none (d + 1) 262 (4, [some (.ref 62), some (.int y1), some (.int y2), some (.int y3)], []) (107, I, J, mm_rf rv sp rr w nw) Q := by
  intro n
  induction n with
  | zero =>
    intro y1 y2 y3 I J rv sp rr w nw out e k
    rw [fX12_loadsAt_L4] at e; cases e
  | succ n ih =>
    intro y1 y2 y3 I J rv sp rr w nw out e k
    rw [fX12_loadsAt_L4] at e
    refine mm_T.seg (f' := (9, [some (.ref 62), some (.int y1), some (.int y2), some (.int y3)], [(.int (I 62 49)), (.int y3)])) (h' := (107, I, J, mm_rf rv sp rr w nw)) 3 rfl ?_
    refine mm_T.br (c := y3 < (I 62 49)) (a := ((12, [some (.ref 62), some (.int y1), some (.int y2), some (.int y3)], []), (107, I, J, mm_rf rv sp rr w nw))) (b := ((44, [some (.ref 62), some (.int y1), some (.int y2), some (.int y3)], []), (107, I, J, mm_rf rv sp rr w nw))) rfl (fun h548 => ?_) (fun h548 => ?_)
    · rw [if_pos h548] at e
      refine mm_T.seg (f' := (21, [some (.ref 62), some (.int y1), some (.int y2), some (.int y3)], [(.int (20 + y3)), (.ref 85), (.int y2)])) (h' := (107, I, J, mm_rf rv sp rr w nw)) 6 rfl ?_
      by_cases h549 : (20 + y3) < 0 ∨ 28 ≤ (20 + y3).toNatClampNeg
      · rw [if_pos h549] at e; cases e
      rw [if_neg h549] at e
      refine mm_T.guard (c := (20 + y3) < 0 ∨ 28 ≤ (20 + y3).toNatClampNeg) (y := ((22, [some (.ref 62), some (.int y1), some (.int y2), some (.int y3)], [(.int (I 85 (20 + y3).toNatClampNeg)), (.int y2)]), (107, I, J, mm_rf rv sp rr w nw))) (mm_gen (P := fun z => mm_stp none 262 (21, [some (.ref 62), some (.int y1), some (.int y2), some (.int y3)], [(.int z), (.ref 85), (.int y2)]) (107, I, J, mm_rf rv sp rr w nw) = if z < 0 ∨ 28 ≤ z.toNatClampNeg then none else some (.inl ((22, [some (.ref 62), some (.int y1), some (.int y2), some (.int y3)], [(.int (I 85 z.toNatClampNeg)), (.int y2)]), (107, I, J, mm_rf rv sp rr w nw)))) (20 + y3) (fun z => rfl)) h549 ?_
      refine mm_T.seg (f' := (23, [some (.ref 62), some (.int y1), some (.int y2), some (.int y3)], [(.int y1), (.int (I 85 (20 + y3).toNatClampNeg)), (.int y2)])) (h' := (107, I, J, mm_rf rv sp rr w nw)) 1 rfl ?_
      refine mm_T.br (c := (I 85 (20 + y3).toNatClampNeg) = y1) (a := ((26, [some (.ref 62), some (.int y1), some (.int y2), some (.int y3)], [(.int y2)]), (107, I, J, mm_rf rv sp rr w nw))) (b := ((30, [some (.ref 62), some (.int y1), some (.int y2), some (.int y3)], [(.int y2)]), (107, I, J, mm_rf rv sp rr w nw))) rfl (fun h550 => ?_) (fun h550 => ?_)
      · rw [if_pos h550] at e
        refine mm_T.seg (f' := (31, [some (.ref 62), some (.int y1), some (.int y2), some (.int y3)], [(.int 1), (.int y2)])) (h' := (107, I, J, mm_rf rv sp rr w nw)) 2 rfl ?_
        refine mm_T.call (t := 236) (as := [(.int 1)]) (f' := (34, [some (.ref 62), some (.int y1), some (.int y2), some (.int y3)], [(.int y2)])) rfl (tX12_truth (d + 0) 1 I J rv sp rr w nw _ rfl) (fun v h hq => ?_)
        obtain ⟨rfl, rfl⟩ := hq
        refine mm_T.seg (f' := (4, [some (.ref 62), some (.int y1), some (.int (y2 ||| ((fX12_truth 1) <<< (y3 &&& 31)))), some (.int (y3 + 1))], [])) (h' := (107, I, J, mm_rf rv sp rr w nw)) 6 rfl ?_
        refine mm_T.mask [true, true, true, true] ?_
        exact ih y1 (y2 ||| ((fX12_truth 1) <<< (y3 &&& 31))) (y3 + 1) I J rv sp rr w nw out e k
      · rw [if_neg h550] at e
        refine mm_T.seg (f' := (31, [some (.ref 62), some (.int y1), some (.int y2), some (.int y3)], [(.int 0), (.int y2)])) (h' := (107, I, J, mm_rf rv sp rr w nw)) 1 rfl ?_
        refine mm_T.call (t := 236) (as := [(.int 0)]) (f' := (34, [some (.ref 62), some (.int y1), some (.int y2), some (.int y3)], [(.int y2)])) rfl (tX12_truth (d + 0) 0 I J rv sp rr w nw _ rfl) (fun v h hq => ?_)
        obtain ⟨rfl, rfl⟩ := hq
        refine mm_T.seg (f' := (4, [some (.ref 62), some (.int y1), some (.int (y2 ||| ((fX12_truth 0) <<< (y3 &&& 31)))), some (.int (y3 + 1))], [])) (h' := (107, I, J, mm_rf rv sp rr w nw)) 6 rfl ?_
        refine mm_T.mask [true, true, true, true] ?_
        exact ih y1 (y2 ||| ((fX12_truth 0) <<< (y3 &&& 31))) (y3 + 1) I J rv sp rr w nw out e k
    · rw [if_neg h548] at e
      cases e
      refine mm_T.mask [false, false, true, false] ?_
      exact k
set_option maxRecDepth 100000 in
set_option maxHeartbeats 4000000 in
theorem tX12_loadsAt (d n : Nat) (x1 : Int32) (I : Nat → Nat → Int32) (J : Nat → Nat → Int64) (rv sp rr w nw : Nat) (out : Int32) (e : fX12_loadsAt n x1 I = some out) : mm_T none (d + 1) 262 (mm_ent 262 [(.ref 62), (.int x1)]) (107, I, J, mm_rf rv sp rr w nw) (fun v h => v = some (.int out) ∧ h = (107, I, J, mm_rf rv sp rr w nw)) := by
  unfold fX12_loadsAt at e
  refine mm_T.seg (f' := (4, [some (.ref 62), some (.int x1), some (.int 0), some (.int 0)], [])) (h' := (107, I, J, mm_rf rv sp rr w nw)) 4 rfl ?_
  refine mm_T.mask [true, true, true, true] ?_
  obtain ⟨o551, eo551, e⟩ := mm_bind e
  refine tlX12_loadsAt_L4 d _ n x1 0 0 I J rv sp rr w nw o551 eo551 ?_
  refine mm_T.seg (f' := (45, [none, none, some (.int o551), none], [(.int o551)])) (h' := (107, I, J, mm_rf rv sp rr w nw)) 1 rfl ?_
  cases e
  exact mm_T.ret rfl ⟨rfl, rfl⟩
set_option maxRecDepth 100000 in
set_option maxHeartbeats 4000000 in
theorem tX12_board (d n : Nat) (x1 : Int32) (x2 : Int32) (I : Nat → Nat → Int32) (J : Nat → Nat → Int64) (rv sp rr w nw : Nat) (out : Int32 × (Nat → Nat → Int32)) (e : fX12_board n x1 x2 I = some out) : mm_T none (d + 2) 263 (mm_ent 263 [(.ref 62), (.int x1), (.int x2)]) (107, I, J, mm_rf rv sp rr w nw) (fun v h => v = some (.int out.1) ∧ h = (107, out.2, J, mm_rf rv sp rr w nw)) := by
  unfold fX12_board at e
  refine mm_T.seg (f' := (2, [some (.ref 62), some (.int x1), some (.int x2)], [(.int x1), (.ref 62)])) (h' := (107, I, J, mm_rf rv sp rr w nw)) 2 rfl ?_
  obtain ⟨o552, eo552, e⟩ := mm_bind e
  refine mm_T.call (t := 253) (as := [(.ref 62), (.int x1)]) (f' := (5, [some (.ref 62), some (.int x1), some (.int x2)], [])) rfl (tX12_isBoard (d + 0) x1 I J rv sp rr w nw o552 eo552) (fun v h hq => ?_)
  obtain ⟨rfl, rfl⟩ := hq
  refine mm_T.br (c := o552 = 0) (a := ((8, [some (.ref 62), some (.int x1), some (.int x2)], []), (107, I, J, mm_rf rv sp rr w nw))) (b := ((10, [some (.ref 62), some (.int x1), some (.int x2)], []), (107, I, J, mm_rf rv sp rr w nw))) rfl (fun h553 => ?_) (fun h553 => ?_)
  · rw [if_pos h553] at e
    refine mm_T.seg (f' := (9, [some (.ref 62), some (.int x1), some (.int x2)], [(.int (-1))])) (h' := (107, I, J, mm_rf rv sp rr w nw)) 1 rfl ?_
    cases e
    exact mm_T.ret rfl ⟨rfl, rfl⟩
  · rw [if_neg h553] at e
    refine mm_T.seg (f' := (11, [some (.ref 62), some (.int x1), some (.int x2)], [(.ref 62)])) (h' := (107, I, J, mm_rf rv sp rr w nw)) 1 rfl ?_
    obtain ⟨o554, eo554, e⟩ := mm_bind e
    refine mm_T.call (t := 256) (as := [(.ref 62)]) (f' := (14, [some (.ref 62), some (.int x1), some (.int x2)], [])) rfl (tX12_fill (d + 1) n I J rv sp rr w nw o554 eo554) (fun v h hq => ?_)
    obtain ⟨rfl, rfl⟩ := hq
    refine mm_T.seg (f' := (15, [some (.ref 62), some (.int x1), some (.int x2)], [(.int x2)])) (h' := (107, o554, J, mm_rf rv sp rr w nw)) 1 rfl ?_
    by_cases h555 : x2 = 0
    · rw [if_pos h555] at e
      refine mm_T.step (f' := (64, [some (.ref 62), some (.int x1), some (.int x2)], [])) (h' := (107, o554, J, mm_rf rv sp rr w nw)) (by first | (rw [h555]; rfl) | exact absurd h555 (by decide)) ?_
      refine mm_T.seg (f' := (69, [some (.ref 62), some (.int x1), some (.int x2)], [(.int x1), (.ref 85)])) (h' := (107, o554, J, mm_rf rv sp rr w nw)) 3 rfl ?_
      by_cases h556 : x1 < 0 ∨ 28 ≤ x1.toNatClampNeg
      · rw [if_pos h556] at e; cases e
      rw [if_neg h556] at e
      refine mm_T.guard (y := ((70, [some (.ref 62), some (.int x1), some (.int x2)], [(.int (o554 85 x1.toNatClampNeg))]), (107, o554, J, mm_rf rv sp rr w nw))) rfl h556 ?_
      cases e
      exact mm_T.ret rfl ⟨rfl, rfl⟩
    · rw [if_neg h555] at e
      by_cases h557 : x2 = 1
      · rw [if_pos h557] at e
        refine mm_T.step (f' := (71, [some (.ref 62), some (.int x1), some (.int x2)], [])) (h' := (107, o554, J, mm_rf rv sp rr w nw)) (by first | (rw [h557]; rfl) | exact absurd h557 (by decide)) ?_
        refine mm_T.seg (f' := (78, [some (.ref 62), some (.int x1), some (.int x2)], [(.int (4 + x1)), (.ref 85)])) (h' := (107, o554, J, mm_rf rv sp rr w nw)) 5 rfl ?_
        by_cases h558 : (4 + x1) < 0 ∨ 28 ≤ (4 + x1).toNatClampNeg
        · rw [if_pos h558] at e; cases e
        rw [if_neg h558] at e
        refine mm_T.guard (c := (4 + x1) < 0 ∨ 28 ≤ (4 + x1).toNatClampNeg) (y := ((79, [some (.ref 62), some (.int x1), some (.int x2)], [(.int (o554 85 (4 + x1).toNatClampNeg))]), (107, o554, J, mm_rf rv sp rr w nw))) (mm_gen (P := fun z => mm_stp none 263 (78, [some (.ref 62), some (.int x1), some (.int x2)], [(.int z), (.ref 85)]) (107, o554, J, mm_rf rv sp rr w nw) = if z < 0 ∨ 28 ≤ z.toNatClampNeg then none else some (.inl ((79, [some (.ref 62), some (.int x1), some (.int x2)], [(.int (o554 85 z.toNatClampNeg))]), (107, o554, J, mm_rf rv sp rr w nw)))) (4 + x1) (fun z => rfl)) h558 ?_
        cases e
        exact mm_T.ret rfl ⟨rfl, rfl⟩
      · rw [if_neg h557] at e
        by_cases h559 : x2 = 2
        · rw [if_pos h559] at e
          refine mm_T.step (f' := (80, [some (.ref 62), some (.int x1), some (.int x2)], [])) (h' := (107, o554, J, mm_rf rv sp rr w nw)) (by first | (rw [h559]; rfl) | exact absurd h559 (by decide)) ?_
          refine mm_T.seg (f' := (88, [some (.ref 62), some (.int x1), some (.int x2)], [(.int (8 + x1)), (.ref 85)])) (h' := (107, o554, J, mm_rf rv sp rr w nw)) 5 rfl ?_
          by_cases h560 : (8 + x1) < 0 ∨ 28 ≤ (8 + x1).toNatClampNeg
          · rw [if_pos h560] at e; cases e
          rw [if_neg h560] at e
          refine mm_T.guard (c := (8 + x1) < 0 ∨ 28 ≤ (8 + x1).toNatClampNeg) (y := ((89, [some (.ref 62), some (.int x1), some (.int x2)], [(.int (o554 85 (8 + x1).toNatClampNeg))]), (107, o554, J, mm_rf rv sp rr w nw))) (mm_gen (P := fun z => mm_stp none 263 (88, [some (.ref 62), some (.int x1), some (.int x2)], [(.int z), (.ref 85)]) (107, o554, J, mm_rf rv sp rr w nw) = if z < 0 ∨ 28 ≤ z.toNatClampNeg then none else some (.inl ((89, [some (.ref 62), some (.int x1), some (.int x2)], [(.int (o554 85 z.toNatClampNeg))]), (107, o554, J, mm_rf rv sp rr w nw)))) (8 + x1) (fun z => rfl)) h560 ?_
          cases e
          exact mm_T.ret rfl ⟨rfl, rfl⟩
        · rw [if_neg h559] at e
          by_cases h561 : x2 = 3
          · rw [if_pos h561] at e
            refine mm_T.step (f' := (90, [some (.ref 62), some (.int x1), some (.int x2)], [])) (h' := (107, o554, J, mm_rf rv sp rr w nw)) (by first | (rw [h561]; rfl) | exact absurd h561 (by decide)) ?_
            refine mm_T.seg (f' := (98, [some (.ref 62), some (.int x1), some (.int x2)], [(.int (12 + x1)), (.ref 85)])) (h' := (107, o554, J, mm_rf rv sp rr w nw)) 5 rfl ?_
            by_cases h562 : (12 + x1) < 0 ∨ 28 ≤ (12 + x1).toNatClampNeg
            · rw [if_pos h562] at e; cases e
            rw [if_neg h562] at e
            refine mm_T.guard (c := (12 + x1) < 0 ∨ 28 ≤ (12 + x1).toNatClampNeg) (y := ((99, [some (.ref 62), some (.int x1), some (.int x2)], [(.int (o554 85 (12 + x1).toNatClampNeg))]), (107, o554, J, mm_rf rv sp rr w nw))) (mm_gen (P := fun z => mm_stp none 263 (98, [some (.ref 62), some (.int x1), some (.int x2)], [(.int z), (.ref 85)]) (107, o554, J, mm_rf rv sp rr w nw) = if z < 0 ∨ 28 ≤ z.toNatClampNeg then none else some (.inl ((99, [some (.ref 62), some (.int x1), some (.int x2)], [(.int (o554 85 z.toNatClampNeg))]), (107, o554, J, mm_rf rv sp rr w nw)))) (12 + x1) (fun z => rfl)) h562 ?_
            cases e
            exact mm_T.ret rfl ⟨rfl, rfl⟩
          · rw [if_neg h561] at e
            by_cases h563 : x2 = 4
            · rw [if_pos h563] at e
              refine mm_T.step (f' := (100, [some (.ref 62), some (.int x1), some (.int x2)], [])) (h' := (107, o554, J, mm_rf rv sp rr w nw)) (by first | (rw [h563]; rfl) | exact absurd h563 (by decide)) ?_
              refine mm_T.seg (f' := (108, [some (.ref 62), some (.int x1), some (.int x2)], [(.int (16 + x1)), (.ref 85)])) (h' := (107, o554, J, mm_rf rv sp rr w nw)) 5 rfl ?_
              by_cases h564 : (16 + x1) < 0 ∨ 28 ≤ (16 + x1).toNatClampNeg
              · rw [if_pos h564] at e; cases e
              rw [if_neg h564] at e
              refine mm_T.guard (c := (16 + x1) < 0 ∨ 28 ≤ (16 + x1).toNatClampNeg) (y := ((109, [some (.ref 62), some (.int x1), some (.int x2)], [(.int (o554 85 (16 + x1).toNatClampNeg))]), (107, o554, J, mm_rf rv sp rr w nw))) (mm_gen (P := fun z => mm_stp none 263 (108, [some (.ref 62), some (.int x1), some (.int x2)], [(.int z), (.ref 85)]) (107, o554, J, mm_rf rv sp rr w nw) = if z < 0 ∨ 28 ≤ z.toNatClampNeg then none else some (.inl ((109, [some (.ref 62), some (.int x1), some (.int x2)], [(.int (o554 85 z.toNatClampNeg))]), (107, o554, J, mm_rf rv sp rr w nw)))) (16 + x1) (fun z => rfl)) h564 ?_
              cases e
              exact mm_T.ret rfl ⟨rfl, rfl⟩
            · rw [if_neg h563] at e
              by_cases h565 : x2 = 5
              · rw [if_pos h565] at e
                refine mm_T.step (f' := (110, [some (.ref 62), some (.int x1), some (.int x2)], [])) (h' := (107, o554, J, mm_rf rv sp rr w nw)) (by first | (rw [h565]; rfl) | exact absurd h565 (by decide)) ?_
                refine mm_T.seg (f' := (115, [some (.ref 62), some (.int x1), some (.int x2)], [(.int x1), (.ref 80)])) (h' := (107, o554, J, mm_rf rv sp rr w nw)) 3 rfl ?_
                by_cases h566 : x1 < 0 ∨ 4 ≤ x1.toNatClampNeg
                · rw [if_pos h566] at e; cases e
                rw [if_neg h566] at e
                refine mm_T.guard (y := ((116, [some (.ref 62), some (.int x1), some (.int x2)], [(.int (o554 80 x1.toNatClampNeg))]), (107, o554, J, mm_rf rv sp rr w nw))) rfl h566 ?_
                cases e
                exact mm_T.ret rfl ⟨rfl, rfl⟩
              · rw [if_neg h565] at e
                by_cases h567 : x2 = 6
                · rw [if_pos h567] at e
                  refine mm_T.step (f' := (117, [some (.ref 62), some (.int x1), some (.int x2)], [])) (h' := (107, o554, J, mm_rf rv sp rr w nw)) (by first | (rw [h567]; rfl) | exact absurd h567 (by decide)) ?_
                  refine mm_T.seg (f' := (122, [some (.ref 62), some (.int x1), some (.int x2)], [(.int x1), (.ref 82)])) (h' := (107, o554, J, mm_rf rv sp rr w nw)) 3 rfl ?_
                  by_cases h568 : x1 < 0 ∨ 4 ≤ x1.toNatClampNeg
                  · rw [if_pos h568] at e; cases e
                  rw [if_neg h568] at e
                  refine mm_T.guard (y := ((123, [some (.ref 62), some (.int x1), some (.int x2)], [(.int (o554 82 x1.toNatClampNeg))]), (107, o554, J, mm_rf rv sp rr w nw))) rfl h568 ?_
                  cases e
                  exact mm_T.ret rfl ⟨rfl, rfl⟩
                · rw [if_neg h567] at e
                  by_cases h569 : x2 = 7
                  · rw [if_pos h569] at e
                    refine mm_T.step (f' := (124, [some (.ref 62), some (.int x1), some (.int x2)], [])) (h' := (107, o554, J, mm_rf rv sp rr w nw)) (by first | (rw [h569]; rfl) | exact absurd h569 (by decide)) ?_
                    refine mm_T.seg (f' := (126, [some (.ref 62), some (.int x1), some (.int x2)], [(.int x1), (.ref 62)])) (h' := (107, o554, J, mm_rf rv sp rr w nw)) 2 rfl ?_
                    obtain ⟨o570, eo570, e⟩ := mm_bind e
                    refine mm_T.call (t := 240) (as := [(.ref 62), (.int x1)]) (f' := (129, [some (.ref 62), some (.int x1), some (.int x2)], [])) rfl (tX12_burdenOf (d + 1) n x1 o554 J rv sp rr w nw o570 eo570) (fun v h hq => ?_)
                    obtain ⟨rfl, rfl⟩ := hq
                    cases e
                    exact mm_T.ret rfl ⟨rfl, rfl⟩
                  · rw [if_neg h569] at e
                    by_cases h571 : x2 = 8
                    · rw [if_pos h571] at e
                      refine mm_T.step (f' := (130, [some (.ref 62), some (.int x1), some (.int x2)], [])) (h' := (107, o554, J, mm_rf rv sp rr w nw)) (by first | (rw [h571]; rfl) | exact absurd h571 (by decide)) ?_
                      refine mm_T.seg (f' := (132, [some (.ref 62), some (.int x1), some (.int x2)], [(.int x1), (.ref 62)])) (h' := (107, o554, J, mm_rf rv sp rr w nw)) 2 rfl ?_
                      obtain ⟨o572, eo572, e⟩ := mm_bind e
                      refine mm_T.call (t := 262) (as := [(.ref 62), (.int x1)]) (f' := (135, [some (.ref 62), some (.int x1), some (.int x2)], [])) rfl (tX12_loadsAt (d + 0) n x1 o554 J rv sp rr w nw o572 eo572) (fun v h hq => ?_)
                      obtain ⟨rfl, rfl⟩ := hq
                      cases e
                      exact mm_T.ret rfl ⟨rfl, rfl⟩
                    · rw [if_neg h571] at e
                      refine mm_T.tabs (lo := 0) (hi := 8) (y := ((136, [some (.ref 62), some (.int x1), some (.int x2)], []), (107, o554, J, mm_rf rv sp rr w nw))) rfl (mm_swo (0) (8) x2 [0, 1, 2, 3, 4, 5, 6, 7, 8] (by decide) (by intro z hz; simp only [List.mem_cons, List.not_mem_nil, or_false] at hz; rcases hz with rfl | rfl | rfl | rfl | rfl | rfl | rfl | rfl | rfl <;> first | assumption | decide)) ?_
                      refine mm_T.seg (f' := (137, [some (.ref 62), some (.int x1), some (.int x2)], [(.int (-1))])) (h' := (107, o554, J, mm_rf rv sp rr w nw)) 1 rfl ?_
                      cases e
                      exact mm_T.ret rfl ⟨rfl, rfl⟩
set_option maxRecDepth 100000 in
set_option maxHeartbeats 4000000 in
theorem tX12_load (d : Nat) (x1 : Int32) (x2 : Int32) (I : Nat → Nat → Int32) (J : Nat → Nat → Int64) (rv sp rr w nw : Nat) (out : Int32) (e : fX12_load x1 x2 I = some out) : mm_T none (d + 2) 264 (mm_ent 264 [(.ref 62), (.int x1), (.int x2)]) (107, I, J, mm_rf rv sp rr w nw) (fun v h => v = some (.int out) ∧ h = (107, I, J, mm_rf rv sp rr w nw)) := by
  unfold fX12_load at e
  refine mm_T.seg (f' := (2, [some (.ref 62), some (.int x1), some (.int x2)], [(.int x1), (.ref 62)])) (h' := (107, I, J, mm_rf rv sp rr w nw)) 2 rfl ?_
  obtain ⟨o573, eo573, e⟩ := mm_bind e
  refine mm_T.call (t := 254) (as := [(.ref 62), (.int x1)]) (f' := (5, [some (.ref 62), some (.int x1), some (.int x2)], [])) rfl (tX12_isLoad (d + 0) x1 I J rv sp rr w nw o573 eo573) (fun v h hq => ?_)
  obtain ⟨rfl, rfl⟩ := hq
  refine mm_T.br (c := o573 = 0) (a := ((17, [some (.ref 62), some (.int x1), some (.int x2)], []), (107, I, J, mm_rf rv sp rr w nw))) (b := ((8, [some (.ref 62), some (.int x1), some (.int x2)], []), (107, I, J, mm_rf rv sp rr w nw))) rfl (fun h574 => ?_) (fun h574 => ?_)
  · rw [if_pos h574] at e
    refine mm_T.seg (f' := (44, [some (.ref 62), some (.int x1), some (.int x2)], [(.int (-3))])) (h' := (107, I, J, mm_rf rv sp rr w nw)) 2 rfl ?_
    cases e
    exact mm_T.ret rfl ⟨rfl, rfl⟩
  · rw [if_neg h574] at e
    refine mm_T.seg (f' := (11, [some (.ref 62), some (.int x1), some (.int x2)], [(.int 1), (.int 0), (.int x2)])) (h' := (107, I, J, mm_rf rv sp rr w nw)) 3 rfl ?_
    refine mm_T.call (t := 252) (as := [(.int x2), (.int 0), (.int 1)]) (f' := (14, [some (.ref 62), some (.int x1), some (.int x2)], [])) rfl (tX12_isIn (d + 1) x2 0 1 I J rv sp rr w nw _ rfl) (fun v h hq => ?_)
    obtain ⟨rfl, rfl⟩ := hq
    refine mm_T.br (c := (fX12_isIn x2 0 1) = 0) (a := ((17, [some (.ref 62), some (.int x1), some (.int x2)], []), (107, I, J, mm_rf rv sp rr w nw))) (b := ((22, [some (.ref 62), some (.int x1), some (.int x2)], []), (107, I, J, mm_rf rv sp rr w nw))) rfl (fun h575 => ?_) (fun h575 => ?_)
    · rw [if_pos h575] at e
      refine mm_T.seg (f' := (44, [some (.ref 62), some (.int x1), some (.int x2)], [(.int (-3))])) (h' := (107, I, J, mm_rf rv sp rr w nw)) 2 rfl ?_
      cases e
      exact mm_T.ret rfl ⟨rfl, rfl⟩
    · rw [if_neg h575] at e
      refine mm_T.seg (f' := (23, [some (.ref 62), some (.int x1), some (.int x2)], [(.int x2)])) (h' := (107, I, J, mm_rf rv sp rr w nw)) 1 rfl ?_
      refine mm_T.br (c := x2 = 0) (a := ((26, [some (.ref 62), some (.int x1), some (.int x2)], []), (107, I, J, mm_rf rv sp rr w nw))) (b := ((35, [some (.ref 62), some (.int x1), some (.int x2)], []), (107, I, J, mm_rf rv sp rr w nw))) rfl (fun h576 => ?_) (fun h576 => ?_)
      · rw [if_pos h576] at e
        refine mm_T.seg (f' := (31, [some (.ref 62), some (.int x1), some (.int x2)], [(.int x1), (.ref 83)])) (h' := (107, I, J, mm_rf rv sp rr w nw)) 3 rfl ?_
        by_cases h577 : x1 < 0 ∨ 7 ≤ x1.toNatClampNeg
        · rw [if_pos h577] at e; cases e
        rw [if_neg h577] at e
        refine mm_T.guard (y := ((32, [some (.ref 62), some (.int x1), some (.int x2)], [(.int (I 83 x1.toNatClampNeg))]), (107, I, J, mm_rf rv sp rr w nw))) rfl h577 ?_
        refine mm_T.seg (f' := (44, [some (.ref 62), some (.int x1), some (.int x2)], [(.int (I 83 x1.toNatClampNeg))])) (h' := (107, I, J, mm_rf rv sp rr w nw)) 1 rfl ?_
        cases e
        exact mm_T.ret rfl ⟨rfl, rfl⟩
      · rw [if_neg h576] at e
        refine mm_T.seg (f' := (43, [some (.ref 62), some (.int x1), some (.int x2)], [(.int (20 + x1)), (.ref 84)])) (h' := (107, I, J, mm_rf rv sp rr w nw)) 5 rfl ?_
        by_cases h578 : (20 + x1) < 0 ∨ 28 ≤ (20 + x1).toNatClampNeg
        · rw [if_pos h578] at e; cases e
        rw [if_neg h578] at e
        refine mm_T.guard (c := (20 + x1) < 0 ∨ 28 ≤ (20 + x1).toNatClampNeg) (y := ((44, [some (.ref 62), some (.int x1), some (.int x2)], [(.int (I 84 (20 + x1).toNatClampNeg))]), (107, I, J, mm_rf rv sp rr w nw))) (mm_gen (P := fun z => mm_stp none 264 (43, [some (.ref 62), some (.int x1), some (.int x2)], [(.int z), (.ref 84)]) (107, I, J, mm_rf rv sp rr w nw) = if z < 0 ∨ 28 ≤ z.toNatClampNeg then none else some (.inl ((44, [some (.ref 62), some (.int x1), some (.int x2)], [(.int (I 84 z.toNatClampNeg))]), (107, I, J, mm_rf rv sp rr w nw)))) (20 + x1) (fun z => rfl)) h578 ?_
        cases e
        exact mm_T.ret rfl ⟨rfl, rfl⟩
set_option maxRecDepth 100000 in
set_option maxHeartbeats 4000000 in
theorem tX12_spot (d : Nat) (x1 : Int32) (x2 : Int32) (x3 : Int32) (I : Nat → Nat → Int32) (J : Nat → Nat → Int64) (rv sp rr w nw : Nat) (out : Int32) (e : fX12_spot x1 x2 x3 I = some out) : mm_T none (d + 1) 265 (mm_ent 265 [(.ref 62), (.int x1), (.int x2), (.int x3)]) (107, I, J, mm_rf rv sp rr w nw) (fun v h => v = some (.int out) ∧ h = (107, I, J, mm_rf rv sp rr w nw)) := by
  unfold fX12_spot at e
  refine mm_T.seg (f' := (8, [some (.ref 62), some (.int x1), some (.int x2), some (.int x3)], [(.int ((I 62 46) - 1)), (.int 0), (.int x1)])) (h' := (107, I, J, mm_rf rv sp rr w nw)) 6 rfl ?_
  refine mm_T.call (t := 252) (as := [(.int x1), (.int 0), (.int ((I 62 46) - 1))]) (f' := (11, [some (.ref 62), some (.int x1), some (.int x2), some (.int x3)], [])) rfl (tX12_isIn (d + 0) x1 0 ((I 62 46) - 1) I J rv sp rr w nw _ rfl) (fun v h hq => ?_)
  obtain ⟨rfl, rfl⟩ := hq
  refine mm_T.br (c := (fX12_isIn x1 0 ((I 62 46) - 1)) = 0) (a := ((35, [some (.ref 62), some (.int x1), some (.int x2), some (.int x3)], []), (107, I, J, mm_rf rv sp rr w nw))) (b := ((14, [some (.ref 62), some (.int x1), some (.int x2), some (.int x3)], []), (107, I, J, mm_rf rv sp rr w nw))) rfl (fun h579 => ?_) (fun h579 => ?_)
  · rw [if_pos h579] at e
    refine mm_T.seg (f' := (36, [some (.ref 62), some (.int x1), some (.int x2), some (.int x3)], [(.int (-1))])) (h' := (107, I, J, mm_rf rv sp rr w nw)) 1 rfl ?_
    cases e
    exact mm_T.ret rfl ⟨rfl, rfl⟩
  · rw [if_neg h579] at e
    refine mm_T.seg (f' := (20, [some (.ref 62), some (.int x1), some (.int x2), some (.int x3)], [(.int (I 62 47)), (.int 0), (.int x2)])) (h' := (107, I, J, mm_rf rv sp rr w nw)) 4 rfl ?_
    refine mm_T.call (t := 252) (as := [(.int x2), (.int 0), (.int (I 62 47))]) (f' := (23, [some (.ref 62), some (.int x1), some (.int x2), some (.int x3)], [])) rfl (tX12_isIn (d + 0) x2 0 (I 62 47) I J rv sp rr w nw _ rfl) (fun v h hq => ?_)
    obtain ⟨rfl, rfl⟩ := hq
    refine mm_T.br (c := (fX12_isIn x2 0 (I 62 47)) = 0) (a := ((35, [some (.ref 62), some (.int x1), some (.int x2), some (.int x3)], []), (107, I, J, mm_rf rv sp rr w nw))) (b := ((26, [some (.ref 62), some (.int x1), some (.int x2), some (.int x3)], []), (107, I, J, mm_rf rv sp rr w nw))) rfl (fun h580 => ?_) (fun h580 => ?_)
    · rw [if_pos h580] at e
      refine mm_T.seg (f' := (36, [some (.ref 62), some (.int x1), some (.int x2), some (.int x3)], [(.int (-1))])) (h' := (107, I, J, mm_rf rv sp rr w nw)) 1 rfl ?_
      cases e
      exact mm_T.ret rfl ⟨rfl, rfl⟩
    · rw [if_neg h580] at e
      refine mm_T.seg (f' := (29, [some (.ref 62), some (.int x1), some (.int x2), some (.int x3)], [(.int 1), (.int 0), (.int x3)])) (h' := (107, I, J, mm_rf rv sp rr w nw)) 3 rfl ?_
      refine mm_T.call (t := 252) (as := [(.int x3), (.int 0), (.int 1)]) (f' := (32, [some (.ref 62), some (.int x1), some (.int x2), some (.int x3)], [])) rfl (tX12_isIn (d + 0) x3 0 1 I J rv sp rr w nw _ rfl) (fun v h hq => ?_)
      obtain ⟨rfl, rfl⟩ := hq
      refine mm_T.br (c := (fX12_isIn x3 0 1) = 0) (a := ((35, [some (.ref 62), some (.int x1), some (.int x2), some (.int x3)], []), (107, I, J, mm_rf rv sp rr w nw))) (b := ((37, [some (.ref 62), some (.int x1), some (.int x2), some (.int x3)], []), (107, I, J, mm_rf rv sp rr w nw))) rfl (fun h581 => ?_) (fun h581 => ?_)
      · rw [if_pos h581] at e
        refine mm_T.seg (f' := (36, [some (.ref 62), some (.int x1), some (.int x2), some (.int x3)], [(.int (-1))])) (h' := (107, I, J, mm_rf rv sp rr w nw)) 1 rfl ?_
        cases e
        exact mm_T.ret rfl ⟨rfl, rfl⟩
      · rw [if_neg h581] at e
        refine mm_T.seg (f' := (38, [some (.ref 62), some (.int x1), some (.int x2), some (.int x3)], [(.int x3)])) (h' := (107, I, J, mm_rf rv sp rr w nw)) 1 rfl ?_
        refine mm_T.br (c := x3 = 0) (a := ((41, [some (.ref 62), some (.int x1), some (.int x2), some (.int x3)], []), (107, I, J, mm_rf rv sp rr w nw))) (b := ((50, [some (.ref 62), some (.int x1), some (.int x2), some (.int x3)], []), (107, I, J, mm_rf rv sp rr w nw))) rfl (fun h582 => ?_) (fun h582 => ?_)
        · rw [if_pos h582] at e
          refine mm_T.seg (f' := (44, [some (.ref 62), some (.int x1), some (.int x2), some (.int x3)], [(.int x2), (.int x1), (.ref 62)])) (h' := (107, I, J, mm_rf rv sp rr w nw)) 3 rfl ?_
          obtain ⟨o583, eo583, e⟩ := mm_bind e
          refine mm_T.call (t := 258) (as := [(.ref 62), (.int x1), (.int x2)]) (f' := (47, [some (.ref 62), some (.int x1), some (.int x2), some (.int x3)], [])) rfl (tX12_currentAt (d + 0) x1 x2 I J rv sp rr w nw o583 eo583) (fun v h hq => ?_)
          obtain ⟨rfl, rfl⟩ := hq
          refine mm_T.seg (f' := (59, [some (.ref 62), some (.int x1), some (.int x2), some (.int x3)], [(.int o583)])) (h' := (107, I, J, mm_rf rv sp rr w nw)) 1 rfl ?_
          cases e
          exact mm_T.ret rfl ⟨rfl, rfl⟩
        · rw [if_neg h582] at e
          refine mm_T.seg (f' := (53, [some (.ref 62), some (.int x1), some (.int x2), some (.int x3)], [(.int x2), (.int x1), (.ref 62)])) (h' := (107, I, J, mm_rf rv sp rr w nw)) 3 rfl ?_
          obtain ⟨o584, eo584, e⟩ := mm_bind e
          refine mm_T.call (t := 260) (as := [(.ref 62), (.int x1), (.int x2)]) (f' := (56, [some (.ref 62), some (.int x1), some (.int x2), some (.int x3)], [])) rfl (tX12_isIron (d + 0) x1 x2 I J rv sp rr w nw o584 eo584) (fun v h hq => ?_)
          obtain ⟨rfl, rfl⟩ := hq
          refine mm_T.call (t := 236) (as := [(.int o584)]) (f' := (59, [some (.ref 62), some (.int x1), some (.int x2), some (.int x3)], [])) rfl (tX12_truth (d + 0) o584 I J rv sp rr w nw _ rfl) (fun v h hq => ?_)
          obtain ⟨rfl, rfl⟩ := hq
          cases e
          exact mm_T.ret rfl ⟨rfl, rfl⟩
set_option maxRecDepth 100000 in
set_option maxHeartbeats 4000000 in
theorem tX12_hotter (d n : Nat) (x1 : Int32) (I : Nat → Nat → Int32) (J : Nat → Nat → Int64) (rv sp rr w nw : Nat) (out : Int32 × (Nat → Nat → Int32)) (e : fX12_hotter n x1 I = some out) : mm_T none (d + 3) 266 (mm_ent 266 [(.ref 62), (.int x1)]) (107, I, J, mm_rf rv sp rr w nw) (fun v h => v = some (.int out.1) ∧ h = (107, out.2, J, mm_rf rv sp rr w nw)) := by
  unfold fX12_hotter at e
  refine mm_T.seg (f' := (1, [some (.ref 62), some (.int x1)], [(.ref 62)])) (h' := (107, I, J, mm_rf rv sp rr w nw)) 1 rfl ?_
  obtain ⟨o585, eo585, e⟩ := mm_bind e
  refine mm_T.call (t := 256) (as := [(.ref 62)]) (f' := (4, [some (.ref 62), some (.int x1)], [])) rfl (tX12_fill (d + 2) n I J rv sp rr w nw o585 eo585) (fun v h hq => ?_)
  obtain ⟨rfl, rfl⟩ := hq
  refine mm_T.seg (f' := (6, [some (.ref 62), some (.int x1)], [(.int x1), (.ref 62)])) (h' := (107, o585, J, mm_rf rv sp rr w nw)) 2 rfl ?_
  obtain ⟨o586, eo586, e⟩ := mm_bind e
  refine mm_T.call (t := 253) (as := [(.ref 62), (.int x1)]) (f' := (9, [some (.ref 62), some (.int x1)], [])) rfl (tX12_isBoard (d + 1) x1 o585 J rv sp rr w nw o586 eo586) (fun v h hq => ?_)
  obtain ⟨rfl, rfl⟩ := hq
  refine mm_T.br (c := o586 = 0) (a := ((20, [some (.ref 62), some (.int x1)], []), (107, o585, J, mm_rf rv sp rr w nw))) (b := ((12, [some (.ref 62), some (.int x1)], []), (107, o585, J, mm_rf rv sp rr w nw))) rfl (fun h587 => ?_) (fun h587 => ?_)
  · rw [if_pos h587] at e
    refine mm_T.seg (f' := (21, [some (.ref 62), some (.int x1)], [(.int (-1))])) (h' := (107, o585, J, mm_rf rv sp rr w nw)) 1 rfl ?_
    cases e
    exact mm_T.ret rfl ⟨rfl, rfl⟩
  · rw [if_neg h587] at e
    refine mm_T.seg (f' := (14, [some (.ref 62), some (.int x1)], [(.int x1), (.ref 62)])) (h' := (107, o585, J, mm_rf rv sp rr w nw)) 2 rfl ?_
    obtain ⟨o588, eo588, e⟩ := mm_bind e
    refine mm_T.call (t := 241) (as := [(.ref 62), (.int x1)]) (f' := (17, [some (.ref 62), some (.int x1)], [])) rfl (tX12_hotterOf (d + 0) n x1 o585 J rv sp rr w nw o588 eo588) (fun v h hq => ?_)
    obtain ⟨rfl, rfl⟩ := hq
    refine mm_T.seg (f' := (21, [some (.ref 62), some (.int x1)], [(.int o588.1)])) (h' := (107, o588.2, J, mm_rf rv sp rr w nw)) 1 rfl ?_
    cases e
    exact mm_T.ret rfl ⟨rfl, rfl⟩
set_option maxRecDepth 100000 in
set_option maxHeartbeats 4000000 in
theorem tlX12_act_L11 (d : Nat) (Q : Option Value → mm_H → Prop) : ∀ (n : Nat) (y1 : Int32) (I : Nat → Nat → Int32) (J : Nat → Nat → Int64) (rv sp rr w nw : Nat), ∀ (out : (Nat → Nat → Int32)), fX12_act_L11 n y1 I = some out → mm_T none (d + 1) 267 (39, [some (.ref 62), none], []) (107, out, J, mm_rf rv sp rr w nw) Q → mm_T none (d + 1) 267 (11, [some (.ref 62), some (.int y1)], []) (107, I, J, mm_rf rv sp rr w nw) Q := by
  intro n
  induction n with
  | zero =>
    intro y1 I J rv sp rr w nw out e k
    rw [fX12_act_L11] at e; cases e
  | succ n ih =>
    intro y1 I J rv sp rr w nw out e k
    rw [fX12_act_L11] at e
    refine mm_T.seg (f' := (15, [some (.ref 62), some (.int y1)], [(.int 1092), (.int y1)])) (h' := (107, I, J, mm_rf rv sp rr w nw)) 2 rfl ?_
    refine mm_T.br (c := y1 < 1092) (a := ((18, [some (.ref 62), some (.int y1)], []), (107, I, J, mm_rf rv sp rr w nw))) (b := ((39, [some (.ref 62), some (.int y1)], []), (107, I, J, mm_rf rv sp rr w nw))) rfl (fun h590 => ?_) (fun h590 => ?_)
    · rw [if_pos h590] at e
      refine mm_T.seg (f' := (31, [some (.ref 62), some (.int y1)], [(.int (28 + y1)), (.ref 86), (.int y1), (.ref 86)])) (h' := (107, I, J, mm_rf rv sp rr w nw)) 8 rfl ?_
      by_cases h591 : (28 + y1) < 0 ∨ 1120 ≤ (28 + y1).toNatClampNeg
      · rw [if_pos h591] at e; cases e
      rw [if_neg h591] at e
      refine mm_T.guard (c := (28 + y1) < 0 ∨ 1120 ≤ (28 + y1).toNatClampNeg) (y := ((32, [some (.ref 62), some (.int y1)], [(.int (I 86 (28 + y1).toNatClampNeg)), (.int y1), (.ref 86)]), (107, I, J, mm_rf rv sp rr w nw))) (mm_gen (P := fun z => mm_stp none 267 (31, [some (.ref 62), some (.int y1)], [(.int z), (.ref 86), (.int y1), (.ref 86)]) (107, I, J, mm_rf rv sp rr w nw) = if z < 0 ∨ 1120 ≤ z.toNatClampNeg then none else some (.inl ((32, [some (.ref 62), some (.int y1)], [(.int (I 86 z.toNatClampNeg)), (.int y1), (.ref 86)]), (107, I, J, mm_rf rv sp rr w nw)))) (28 + y1) (fun z => rfl)) h591 ?_
      by_cases h592 : y1 < 0 ∨ 1120 ≤ y1.toNatClampNeg
      · rw [if_pos h592] at e; cases e
      rw [if_neg h592] at e
      refine mm_T.guard (y := ((33, [some (.ref 62), some (.int y1)], []), (107, (mm_up I 86 y1.toNatClampNeg (I 86 (28 + y1).toNatClampNeg)), J, mm_rf rv sp rr w nw))) rfl h592 ?_
      refine mm_T.seg (f' := (11, [some (.ref 62), some (.int (y1 + 1))], [])) (h' := (107, (mm_up I 86 y1.toNatClampNeg (I 86 (28 + y1).toNatClampNeg)), J, mm_rf rv sp rr w nw)) 2 rfl ?_
      refine mm_T.mask [true, true] ?_
      exact ih (y1 + 1) (mm_up I 86 y1.toNatClampNeg (I 86 (28 + y1).toNatClampNeg)) J rv sp rr w nw out e k
    · rw [if_neg h590] at e
      cases e
      refine mm_T.mask [true, false] ?_
      exact k
set_option maxRecDepth 100000 in
set_option maxHeartbeats 4000000 in
theorem tlX12_act_L51 (d : Nat) (Q : Option Value → mm_H → Prop) : ∀ (n : Nat) (y1 : Int32) (I : Nat → Nat → Int32) (J : Nat → Nat → Int64) (rv sp rr w nw : Nat), ∀ (out : (Nat → Nat → Int32)), fX12_act_L51 n y1 I = some out → mm_T none (d + 1) 267 (83, [some (.ref 62), none], []) (107, out, J, mm_rf rv sp rr w nw) Q → mm_T none (d + 1) 267 (51, [some (.ref 62), some (.int y1)], []) (107, I, J, mm_rf rv sp rr w nw) Q := by
  intro n
  induction n with
  | zero =>
    intro y1 I J rv sp rr w nw out e k
    rw [fX12_act_L51] at e; cases e
  | succ n ih =>
    intro y1 I J rv sp rr w nw out e k
    rw [fX12_act_L51] at e
    refine mm_T.seg (f' := (54, [some (.ref 62), some (.int y1)], [(.int 28), (.int y1)])) (h' := (107, I, J, mm_rf rv sp rr w nw)) 2 rfl ?_
    refine mm_T.br (c := y1 < 28) (a := ((57, [some (.ref 62), some (.int y1)], []), (107, I, J, mm_rf rv sp rr w nw))) (b := ((83, [some (.ref 62), some (.int y1)], []), (107, I, J, mm_rf rv sp rr w nw))) rfl (fun h594 => ?_) (fun h594 => ?_)
    · rw [if_pos h594] at e
      refine mm_T.seg (f' := (75, [some (.ref 62), some (.int y1)], [(.int y1), (.ref 84), (.int ((28 * (I 62 57)) + y1)), (.ref 86)])) (h' := (107, I, J, mm_rf rv sp rr w nw)) 11 rfl ?_
      by_cases h595 : y1 < 0 ∨ 28 ≤ y1.toNatClampNeg
      · rw [if_pos h595] at e; cases e
      rw [if_neg h595] at e
      refine mm_T.guard (y := ((76, [some (.ref 62), some (.int y1)], [(.int (I 84 y1.toNatClampNeg)), (.int ((28 * (I 62 57)) + y1)), (.ref 86)]), (107, I, J, mm_rf rv sp rr w nw))) rfl h595 ?_
      by_cases h596 : ((28 * (I 62 57)) + y1) < 0 ∨ 1120 ≤ ((28 * (I 62 57)) + y1).toNatClampNeg
      · rw [if_pos h596] at e; cases e
      rw [if_neg h596] at e
      refine mm_T.guard (c := ((28 * (I 62 57)) + y1) < 0 ∨ 1120 ≤ ((28 * (I 62 57)) + y1).toNatClampNeg) (y := ((77, [some (.ref 62), some (.int y1)], []), (107, (mm_up I 86 ((28 * (I 62 57)) + y1).toNatClampNeg (I 84 y1.toNatClampNeg)), J, mm_rf rv sp rr w nw))) (mm_gen (P := fun z => mm_stp none 267 (76, [some (.ref 62), some (.int y1)], [(.int (I 84 y1.toNatClampNeg)), (.int z), (.ref 86)]) (107, I, J, mm_rf rv sp rr w nw) = if z < 0 ∨ 1120 ≤ z.toNatClampNeg then none else some (.inl ((77, [some (.ref 62), some (.int y1)], []), (107, (mm_up I 86 z.toNatClampNeg (I 84 y1.toNatClampNeg)), J, mm_rf rv sp rr w nw)))) ((28 * (I 62 57)) + y1) (fun z => rfl)) h596 ?_
      refine mm_T.seg (f' := (51, [some (.ref 62), some (.int (y1 + 1))], [])) (h' := (107, (mm_up I 86 ((28 * (I 62 57)) + y1).toNatClampNeg (I 84 y1.toNatClampNeg)), J, mm_rf rv sp rr w nw)) 2 rfl ?_
      refine mm_T.mask [true, true] ?_
      exact ih (y1 + 1) (mm_up I 86 ((28 * (I 62 57)) + y1).toNatClampNeg (I 84 y1.toNatClampNeg)) J rv sp rr w nw out e k
    · rw [if_neg h594] at e
      cases e
      refine mm_T.mask [true, false] ?_
      exact k
set_option maxRecDepth 100000 in
set_option maxHeartbeats 4000000 in
theorem tX12_act (d n : Nat) (I : Nat → Nat → Int32) (J : Nat → Nat → Int64) (rv sp rr w nw : Nat) (out : (Nat → Nat → Int32)) (e : fX12_act n I = some out) : mm_T none (d + 1) 267 (mm_ent 267 [(.ref 62)]) (107, I, J, mm_rf rv sp rr w nw) (fun v h => v = none ∧ h = (107, out, J, mm_rf rv sp rr w nw)) := by
  unfold fX12_act at e
  refine mm_T.seg (f' := (6, [some (.ref 62), none], [(.int 40), (.int (I 62 57))])) (h' := (107, I, J, mm_rf rv sp rr w nw)) 3 rfl ?_
  refine mm_T.br (c := (I 62 57) = 40) (a := ((9, [some (.ref 62), none], []), (107, I, J, mm_rf rv sp rr w nw))) (b := ((49, [some (.ref 62), none], []), (107, I, J, mm_rf rv sp rr w nw))) rfl (fun h589 => ?_) (fun h589 => ?_)
  · rw [if_pos h589] at e
    refine mm_T.seg (f' := (11, [some (.ref 62), some (.int 0)], [])) (h' := (107, I, J, mm_rf rv sp rr w nw)) 2 rfl ?_
    refine mm_T.mask [true, true] ?_
    obtain ⟨o593, eo593, e⟩ := mm_bind e
    refine tlX12_act_L11 d _ n 0 I J rv sp rr w nw o593 eo593 ?_
    refine mm_T.seg (f' := (51, [some (.ref 62), some (.int 0)], [])) (h' := (107, (mm_up o593 62 57 ((o593 62 57) - 1)), J, mm_rf rv sp rr w nw)) 8 rfl ?_
    refine mm_T.mask [true, true] ?_
    obtain ⟨o597, eo597, e⟩ := mm_bind e
    refine tlX12_act_L51 d _ n 0 (mm_up o593 62 57 ((o593 62 57) - 1)) J rv sp rr w nw o597 eo597 ?_
    refine mm_T.seg (f' := (99, [some (.ref 62), none], [(.ref 62)])) (h' := (107, (mm_up (mm_up o597 62 57 ((o597 62 57) + 1)) 62 58 0), J, mm_rf rv sp rr w nw)) 10 rfl ?_
    obtain ⟨o598, eo598, e⟩ := mm_bind e
    refine mm_T.call (t := 256) (as := [(.ref 62)]) (f' := (102, [some (.ref 62), none], [])) rfl (tX12_fill (d + 0) n (mm_up (mm_up o597 62 57 ((o597 62 57) + 1)) 62 58 0) J rv sp rr w nw o598 eo598) (fun v h hq => ?_)
    obtain ⟨rfl, rfl⟩ := hq
    cases e
    exact mm_T.ret rfl ⟨rfl, rfl⟩
  · rw [if_neg h589] at e
    refine mm_T.seg (f' := (51, [some (.ref 62), some (.int 0)], [])) (h' := (107, I, J, mm_rf rv sp rr w nw)) 2 rfl ?_
    refine mm_T.mask [true, true] ?_
    obtain ⟨o599, eo599, e⟩ := mm_bind e
    refine tlX12_act_L51 d _ n 0 I J rv sp rr w nw o599 eo599 ?_
    refine mm_T.seg (f' := (99, [some (.ref 62), none], [(.ref 62)])) (h' := (107, (mm_up (mm_up o599 62 57 ((o599 62 57) + 1)) 62 58 0), J, mm_rf rv sp rr w nw)) 10 rfl ?_
    obtain ⟨o600, eo600, e⟩ := mm_bind e
    refine mm_T.call (t := 256) (as := [(.ref 62)]) (f' := (102, [some (.ref 62), none], [])) rfl (tX12_fill (d + 0) n (mm_up (mm_up o599 62 57 ((o599 62 57) + 1)) 62 58 0) J rv sp rr w nw o600 eo600) (fun v h hq => ?_)
    obtain ⟨rfl, rfl⟩ := hq
    cases e
    exact mm_T.ret rfl ⟨rfl, rfl⟩
set_option maxRecDepth 100000 in
set_option maxHeartbeats 4000000 in
theorem tlX12_exchange_L2 (d : Nat) (Q : Option Value → mm_H → Prop) : ∀ (n : Nat) (y1 : Int32) (y2 : Int32) (I : Nat → Nat → Int32) (J : Nat → Nat → Int64) (rv sp rr w nw : Nat), ∀ (out : (Nat → Nat → Int32)), fX12_exchange_L2 n y1 y2 I = some out → mm_T none (d + 0) 268 (44, [none, none, none, none], []) (107, out, J, mm_rf rv sp rr w nw) Q → mm_T none (d + 0) 268 (2, [some (.ref 62), some (.int y1), some (.int y2), none], []) (107, I, J, mm_rf rv sp rr w nw) Q := by
  intro n
  induction n with
  | zero =>
    intro y1 y2 I J rv sp rr w nw out e k
    rw [fX12_exchange_L2] at e; cases e
  | succ n ih =>
    intro y1 y2 I J rv sp rr w nw out e k
    rw [fX12_exchange_L2] at e
    refine mm_T.seg (f' := (5, [some (.ref 62), some (.int y1), some (.int y2), none], [(.int 28), (.int y2)])) (h' := (107, I, J, mm_rf rv sp rr w nw)) 2 rfl ?_
    refine mm_T.br (c := y2 < 28) (a := ((8, [some (.ref 62), some (.int y1), some (.int y2), none], []), (107, I, J, mm_rf rv sp rr w nw))) (b := ((44, [some (.ref 62), some (.int y1), some (.int y2), none], []), (107, I, J, mm_rf rv sp rr w nw))) rfl (fun h601 => ?_) (fun h601 => ?_)
    · rw [if_pos h601] at e
      refine mm_T.seg (f' := (15, [some (.ref 62), some (.int y1), some (.int y2), none], [(.int (y1 + y2)), (.ref 86)])) (h' := (107, I, J, mm_rf rv sp rr w nw)) 5 rfl ?_
      by_cases h602 : (y1 + y2) < 0 ∨ 1120 ≤ (y1 + y2).toNatClampNeg
      · rw [if_pos h602] at e; cases e
      rw [if_neg h602] at e
      refine mm_T.guard (c := (y1 + y2) < 0 ∨ 1120 ≤ (y1 + y2).toNatClampNeg) (y := ((16, [some (.ref 62), some (.int y1), some (.int y2), none], [(.int (I 86 (y1 + y2).toNatClampNeg))]), (107, I, J, mm_rf rv sp rr w nw))) (mm_gen (P := fun z => mm_stp none 268 (15, [some (.ref 62), some (.int y1), some (.int y2), none], [(.int z), (.ref 86)]) (107, I, J, mm_rf rv sp rr w nw) = if z < 0 ∨ 1120 ≤ z.toNatClampNeg then none else some (.inl ((16, [some (.ref 62), some (.int y1), some (.int y2), none], [(.int (I 86 z.toNatClampNeg))]), (107, I, J, mm_rf rv sp rr w nw)))) (y1 + y2) (fun z => rfl)) h602 ?_
      refine mm_T.seg (f' := (29, [some (.ref 62), some (.int y1), some (.int y2), some (.int (I 86 (y1 + y2).toNatClampNeg))], [(.int y2), (.ref 84), (.int (y1 + y2)), (.ref 86)])) (h' := (107, I, J, mm_rf rv sp rr w nw)) 9 rfl ?_
      by_cases h603 : y2 < 0 ∨ 28 ≤ y2.toNatClampNeg
      · rw [if_pos h603] at e; cases e
      rw [if_neg h603] at e
      refine mm_T.guard (y := ((30, [some (.ref 62), some (.int y1), some (.int y2), some (.int (I 86 (y1 + y2).toNatClampNeg))], [(.int (I 84 y2.toNatClampNeg)), (.int (y1 + y2)), (.ref 86)]), (107, I, J, mm_rf rv sp rr w nw))) rfl h603 ?_
      by_cases h604 : (y1 + y2) < 0 ∨ 1120 ≤ (y1 + y2).toNatClampNeg
      · rw [if_pos h604] at e; cases e
      rw [if_neg h604] at e
      refine mm_T.guard (c := (y1 + y2) < 0 ∨ 1120 ≤ (y1 + y2).toNatClampNeg) (y := ((31, [some (.ref 62), some (.int y1), some (.int y2), some (.int (I 86 (y1 + y2).toNatClampNeg))], []), (107, (mm_up I 86 (y1 + y2).toNatClampNeg (I 84 y2.toNatClampNeg)), J, mm_rf rv sp rr w nw))) (mm_gen (P := fun z => mm_stp none 268 (30, [some (.ref 62), some (.int y1), some (.int y2), some (.int (I 86 z.toNatClampNeg))], [(.int (I 84 y2.toNatClampNeg)), (.int z), (.ref 86)]) (107, I, J, mm_rf rv sp rr w nw) = if z < 0 ∨ 1120 ≤ z.toNatClampNeg then none else some (.inl ((31, [some (.ref 62), some (.int y1), some (.int y2), some (.int (I 86 z.toNatClampNeg))], []), (107, (mm_up I 86 z.toNatClampNeg (I 84 y2.toNatClampNeg)), J, mm_rf rv sp rr w nw)))) (y1 + y2) (fun z => rfl)) h604 ?_
      refine mm_T.seg (f' := (37, [some (.ref 62), some (.int y1), some (.int y2), some (.int (I 86 (y1 + y2).toNatClampNeg))], [(.int (I 86 (y1 + y2).toNatClampNeg)), (.int y2), (.ref 84)])) (h' := (107, (mm_up I 86 (y1 + y2).toNatClampNeg (I 84 y2.toNatClampNeg)), J, mm_rf rv sp rr w nw)) 4 rfl ?_
      by_cases h605 : y2 < 0 ∨ 28 ≤ y2.toNatClampNeg
      · rw [if_pos h605] at e; cases e
      rw [if_neg h605] at e
      refine mm_T.guard (y := ((38, [some (.ref 62), some (.int y1), some (.int y2), some (.int (I 86 (y1 + y2).toNatClampNeg))], []), (107, (mm_up (mm_up I 86 (y1 + y2).toNatClampNeg (I 84 y2.toNatClampNeg)) 84 y2.toNatClampNeg (I 86 (y1 + y2).toNatClampNeg)), J, mm_rf rv sp rr w nw))) rfl h605 ?_
      refine mm_T.seg (f' := (2, [some (.ref 62), some (.int y1), some (.int (y2 + 1)), some (.int (I 86 (y1 + y2).toNatClampNeg))], [])) (h' := (107, (mm_up (mm_up I 86 (y1 + y2).toNatClampNeg (I 84 y2.toNatClampNeg)) 84 y2.toNatClampNeg (I 86 (y1 + y2).toNatClampNeg)), J, mm_rf rv sp rr w nw)) 2 rfl ?_
      refine mm_T.mask [true, true, true, false] ?_
      exact ih y1 (y2 + 1) (mm_up (mm_up I 86 (y1 + y2).toNatClampNeg (I 84 y2.toNatClampNeg)) 84 y2.toNatClampNeg (I 86 (y1 + y2).toNatClampNeg)) J rv sp rr w nw out e k
    · rw [if_neg h601] at e
      cases e
      refine mm_T.mask [false, false, false, false] ?_
      exact k
set_option maxRecDepth 100000 in
set_option maxHeartbeats 4000000 in
theorem tX12_exchange (d n : Nat) (x1 : Int32) (I : Nat → Nat → Int32) (J : Nat → Nat → Int64) (rv sp rr w nw : Nat) (out : (Nat → Nat → Int32)) (e : fX12_exchange n x1 I = some out) : mm_T none (d + 0) 268 (mm_ent 268 [(.ref 62), (.int x1)]) (107, I, J, mm_rf rv sp rr w nw) (fun v h => v = none ∧ h = (107, out, J, mm_rf rv sp rr w nw)) := by
  unfold fX12_exchange at e
  refine mm_T.seg (f' := (2, [some (.ref 62), some (.int x1), some (.int 0), none], [])) (h' := (107, I, J, mm_rf rv sp rr w nw)) 2 rfl ?_
  refine mm_T.mask [true, true, true, false] ?_
  obtain ⟨o606, eo606, e⟩ := mm_bind e
  refine tlX12_exchange_L2 d _ n x1 0 I J rv sp rr w nw o606 eo606 ?_
  cases e
  exact mm_T.ret rfl ⟨rfl, rfl⟩
set_option maxRecDepth 100000 in
set_option maxHeartbeats 4000000 in
theorem tbX12_stroke_J40 (d : Nat) (I : Nat → Nat → Int32) (J : Nat → Nat → Int64) (rv sp rr w nw : Nat) (out : Int32 × (Nat → Nat → Int32)) (e : fX12_stroke_J40 I = some out) : mm_T none (d + 4) 269 (40, [none, none, none, none, none], []) (107, I, J, mm_rf rv sp rr w nw) (fun v h => v = some (.int out.1) ∧ h = (107, out.2, J, mm_rf rv sp rr w nw)) := by
  unfold fX12_stroke_J40 at e
  refine mm_T.seg (f' := (41, [none, none, none, none, none], [(.int (-1))])) (h' := (107, I, J, mm_rf rv sp rr w nw)) 1 rfl ?_
  cases e
  exact mm_T.ret rfl ⟨rfl, rfl⟩
set_option maxRecDepth 100000 in
set_option maxHeartbeats 4000000 in
theorem tbX12_stroke_J83 (d n : Nat) (u0 : Int32) (u1 : Int32) (u2 : Int32) (I : Nat → Nat → Int32) (J : Nat → Nat → Int64) (rv sp rr w nw : Nat) (out : Int32 × (Nat → Nat → Int32)) (e : fX12_stroke_J83 n u0 u1 u2 I = some out) : mm_T none (d + 4) 269 (83, [some (.ref 62), none, none, none, none], [(.int u0), (.int u1), (.int u2), (.ref 62)]) (107, I, J, mm_rf rv sp rr w nw) (fun v h => v = some (.int out.1) ∧ h = (107, out.2, J, mm_rf rv sp rr w nw)) := by
  unfold fX12_stroke_J83 at e
  refine mm_T.seg (f' := (97, [some (.ref 62), none, none, none, none], [(.int (I 62 50)), (.int ((I 85 27) - (I 85 27) / 100 * 100)), (.int u0), (.int u1), (.int u2), (.ref 62)])) (h' := (107, I, J, mm_rf rv sp rr w nw)) 8 rfl ?_
  refine mm_T.br (c := ((I 85 27) - (I 85 27) / 100 * 100) < (I 62 50)) (a := ((100, [some (.ref 62), none, none, none, none], [(.int u0), (.int u1), (.int u2), (.ref 62)]), (107, I, J, mm_rf rv sp rr w nw))) (b := ((104, [some (.ref 62), none, none, none, none], [(.int u0), (.int u1), (.int u2), (.ref 62)]), (107, I, J, mm_rf rv sp rr w nw))) rfl (fun h615 => ?_) (fun h615 => ?_)
  · rw [if_pos h615] at e
    refine mm_T.seg (f' := (105, [some (.ref 62), none, none, none, none], [(.int 2), (.int u0), (.int u1), (.int u2), (.ref 62)])) (h' := (107, I, J, mm_rf rv sp rr w nw)) 2 rfl ?_
    obtain ⟨o616, eo616, e⟩ := mm_bind e
    refine mm_T.call (t := 261) (as := [(.ref 62), (.int u2), (.int u1), (.int u0), (.int 2)]) (f' := (108, [some (.ref 62), none, none, none, none], [])) rfl (tX12_goStroke (d + 0) n u2 u1 u0 2 I J rv sp rr w nw o616 eo616) (fun v h hq => ?_)
    obtain ⟨rfl, rfl⟩ := hq
    refine mm_T.seg (f' := (111, [some (.ref 62), none, none, none, some (.int o616.1)], [(.ref 62)])) (h' := (107, o616.2, J, mm_rf rv sp rr w nw)) 2 rfl ?_
    obtain ⟨o617, eo617, e⟩ := mm_bind e
    refine mm_T.call (t := 257) (as := [(.ref 62)]) (f' := (114, [some (.ref 62), none, none, none, some (.int o616.1)], [])) rfl (tX12_keepAir (d + 3) n o616.2 J rv sp rr w nw o617 eo617) (fun v h hq => ?_)
    obtain ⟨rfl, rfl⟩ := hq
    refine mm_T.seg (f' := (116, [some (.ref 62), none, none, none, some (.int o616.1)], [(.int o616.1)])) (h' := (107, o617, J, mm_rf rv sp rr w nw)) 1 rfl ?_
    cases e
    exact mm_T.ret rfl ⟨rfl, rfl⟩
  · rw [if_neg h615] at e
    refine mm_T.seg (f' := (105, [some (.ref 62), none, none, none, none], [(.int 1), (.int u0), (.int u1), (.int u2), (.ref 62)])) (h' := (107, I, J, mm_rf rv sp rr w nw)) 1 rfl ?_
    obtain ⟨o618, eo618, e⟩ := mm_bind e
    refine mm_T.call (t := 261) (as := [(.ref 62), (.int u2), (.int u1), (.int u0), (.int 1)]) (f' := (108, [some (.ref 62), none, none, none, none], [])) rfl (tX12_goStroke (d + 0) n u2 u1 u0 1 I J rv sp rr w nw o618 eo618) (fun v h hq => ?_)
    obtain ⟨rfl, rfl⟩ := hq
    refine mm_T.seg (f' := (111, [some (.ref 62), none, none, none, some (.int o618.1)], [(.ref 62)])) (h' := (107, o618.2, J, mm_rf rv sp rr w nw)) 2 rfl ?_
    obtain ⟨o619, eo619, e⟩ := mm_bind e
    refine mm_T.call (t := 257) (as := [(.ref 62)]) (f' := (114, [some (.ref 62), none, none, none, some (.int o618.1)], [])) rfl (tX12_keepAir (d + 3) n o618.2 J rv sp rr w nw o619 eo619) (fun v h hq => ?_)
    obtain ⟨rfl, rfl⟩ := hq
    refine mm_T.seg (f' := (116, [some (.ref 62), none, none, none, some (.int o618.1)], [(.int o618.1)])) (h' := (107, o619, J, mm_rf rv sp rr w nw)) 1 rfl ?_
    cases e
    exact mm_T.ret rfl ⟨rfl, rfl⟩
set_option maxRecDepth 100000 in
set_option maxHeartbeats 4000000 in
theorem tbX12_stroke_J37 (d n : Nat) (y1 : Int32) (y2 : Int32) (y3 : Int32) (u0 : Int32) (u1 : Int32) (I : Nat → Nat → Int32) (J : Nat → Nat → Int64) (rv sp rr w nw : Nat) (out : Int32 × (Nat → Nat → Int32)) (e : fX12_stroke_J37 n y1 y2 y3 u0 u1 I = some out) : mm_T none (d + 4) 269 (37, [some (.ref 62), some (.int y1), some (.int y2), some (.int y3), none], [(.int u0), (.int u1)]) (107, I, J, mm_rf rv sp rr w nw) (fun v h => v = some (.int out.1) ∧ h = (107, out.2, J, mm_rf rv sp rr w nw)) := by
  unfold fX12_stroke_J37 at e
  refine mm_T.br (c := u1 = u0) (a := ((40, [some (.ref 62), some (.int y1), some (.int y2), some (.int y3), none], []), (107, I, J, mm_rf rv sp rr w nw))) (b := ((42, [some (.ref 62), some (.int y1), some (.int y2), some (.int y3), none], []), (107, I, J, mm_rf rv sp rr w nw))) rfl (fun h612 => ?_) (fun h612 => ?_)
  · rw [if_pos h612] at e
    refine mm_T.mask [false, false, false, false, false] ?_
    exact tbX12_stroke_J40 d I J rv sp rr w nw out e
  · rw [if_neg h612] at e
    refine mm_T.seg (f' := (43, [some (.ref 62), some (.int y1), some (.int y2), some (.int y3), none], [(.ref 62)])) (h' := (107, I, J, mm_rf rv sp rr w nw)) 1 rfl ?_
    obtain ⟨o613, eo613, e⟩ := mm_bind e
    refine mm_T.call (t := 267) (as := [(.ref 62)]) (f' := (46, [some (.ref 62), some (.int y1), some (.int y2), some (.int y3), none], [])) rfl (tX12_act (d + 2) n I J rv sp rr w nw o613 eo613) (fun v h hq => ?_)
    obtain ⟨rfl, rfl⟩ := hq
    refine mm_T.seg (f' := (75, [some (.ref 62), some (.int y1), some (.int y2), some (.int y3), none], [(.int y3), (.int y2), (.int y1), (.ref 62)])) (h' := (107, (mm_up o613 85 27 ((((o613 85 27) * 137) + 71) - (((o613 85 27) * 137) + 71) / 1000 * 1000)), J, mm_rf rv sp rr w nw)) 18 rfl ?_
    refine mm_T.br (c := y3 = 0) (a := ((82, [some (.ref 62), some (.int y1), some (.int y2), some (.int y3), none], [(.int y2), (.int y1), (.ref 62)]), (107, (mm_up o613 85 27 ((((o613 85 27) * 137) + 71) - (((o613 85 27) * 137) + 71) / 1000 * 1000)), J, mm_rf rv sp rr w nw))) (b := ((78, [some (.ref 62), some (.int y1), some (.int y2), some (.int y3), none], [(.int y2), (.int y1), (.ref 62)]), (107, (mm_up o613 85 27 ((((o613 85 27) * 137) + 71) - (((o613 85 27) * 137) + 71) / 1000 * 1000)), J, mm_rf rv sp rr w nw))) rfl (fun h614 => ?_) (fun h614 => ?_)
    · rw [if_pos h614] at e
      refine mm_T.seg (f' := (83, [some (.ref 62), some (.int y1), some (.int y2), some (.int y3), none], [(.int (-1)), (.int y2), (.int y1), (.ref 62)])) (h' := (107, (mm_up o613 85 27 ((((o613 85 27) * 137) + 71) - (((o613 85 27) * 137) + 71) / 1000 * 1000)), J, mm_rf rv sp rr w nw)) 1 rfl ?_
      refine mm_T.mask [true, false, false, false, false] ?_
      exact tbX12_stroke_J83 d n (-1) y2 y1 (mm_up o613 85 27 ((((o613 85 27) * 137) + 71) - (((o613 85 27) * 137) + 71) / 1000 * 1000)) J rv sp rr w nw out e
    · rw [if_neg h614] at e
      refine mm_T.seg (f' := (83, [some (.ref 62), some (.int y1), some (.int y2), some (.int y3), none], [(.int 1), (.int y2), (.int y1), (.ref 62)])) (h' := (107, (mm_up o613 85 27 ((((o613 85 27) * 137) + 71) - (((o613 85 27) * 137) + 71) / 1000 * 1000)), J, mm_rf rv sp rr w nw)) 2 rfl ?_
      refine mm_T.mask [true, false, false, false, false] ?_
      exact tbX12_stroke_J83 d n 1 y2 y1 (mm_up o613 85 27 ((((o613 85 27) * 137) + 71) - (((o613 85 27) * 137) + 71) / 1000 * 1000)) J rv sp rr w nw out e
set_option maxRecDepth 100000 in
set_option maxHeartbeats 4000000 in
theorem tX12_stroke (d n : Nat) (x1 : Int32) (x2 : Int32) (x3 : Int32) (I : Nat → Nat → Int32) (J : Nat → Nat → Int64) (rv sp rr w nw : Nat) (out : Int32 × (Nat → Nat → Int32)) (e : fX12_stroke n x1 x2 x3 I = some out) : mm_T none (d + 4) 269 (mm_ent 269 [(.ref 62), (.int x1), (.int x2), (.int x3)]) (107, I, J, mm_rf rv sp rr w nw) (fun v h => v = some (.int out.1) ∧ h = (107, out.2, J, mm_rf rv sp rr w nw)) := by
  unfold fX12_stroke at e
  refine mm_T.seg (f' := (2, [some (.ref 62), some (.int x1), some (.int x2), some (.int x3), none], [(.int x1), (.ref 62)])) (h' := (107, I, J, mm_rf rv sp rr w nw)) 2 rfl ?_
  obtain ⟨o607, eo607, e⟩ := mm_bind e
  refine mm_T.call (t := 253) (as := [(.ref 62), (.int x1)]) (f' := (5, [some (.ref 62), some (.int x1), some (.int x2), some (.int x3), none], [])) rfl (tX12_isBoard (d + 2) x1 I J rv sp rr w nw o607 eo607) (fun v h hq => ?_)
  obtain ⟨rfl, rfl⟩ := hq
  refine mm_T.br (c := o607 = 0) (a := ((40, [some (.ref 62), some (.int x1), some (.int x2), some (.int x3), none], []), (107, I, J, mm_rf rv sp rr w nw))) (b := ((8, [some (.ref 62), some (.int x1), some (.int x2), some (.int x3), none], []), (107, I, J, mm_rf rv sp rr w nw))) rfl (fun h608 => ?_) (fun h608 => ?_)
  · rw [if_pos h608] at e
    refine mm_T.mask [false, false, false, false, false] ?_
    exact tbX12_stroke_J40 d I J rv sp rr w nw out e
  · rw [if_neg h608] at e
    refine mm_T.seg (f' := (11, [some (.ref 62), some (.int x1), some (.int x2), some (.int x3), none], [(.int 1), (.int (-1)), (.int x2)])) (h' := (107, I, J, mm_rf rv sp rr w nw)) 3 rfl ?_
    refine mm_T.call (t := 252) (as := [(.int x2), (.int (-1)), (.int 1)]) (f' := (14, [some (.ref 62), some (.int x1), some (.int x2), some (.int x3), none], [])) rfl (tX12_isIn (d + 3) x2 (-1) 1 I J rv sp rr w nw _ rfl) (fun v h hq => ?_)
    obtain ⟨rfl, rfl⟩ := hq
    refine mm_T.br (c := (fX12_isIn x2 (-1) 1) = 0) (a := ((40, [some (.ref 62), some (.int x1), some (.int x2), some (.int x3), none], []), (107, I, J, mm_rf rv sp rr w nw))) (b := ((17, [some (.ref 62), some (.int x1), some (.int x2), some (.int x3), none], []), (107, I, J, mm_rf rv sp rr w nw))) rfl (fun h609 => ?_) (fun h609 => ?_)
    · rw [if_pos h609] at e
      refine mm_T.mask [false, false, false, false, false] ?_
      exact tbX12_stroke_J40 d I J rv sp rr w nw out e
    · rw [if_neg h609] at e
      refine mm_T.seg (f' := (24, [some (.ref 62), some (.int x1), some (.int x2), some (.int x3), none], [(.int (4 + x1)), (.ref 84)])) (h' := (107, I, J, mm_rf rv sp rr w nw)) 5 rfl ?_
      by_cases h610 : (4 + x1) < 0 ∨ 28 ≤ (4 + x1).toNatClampNeg
      · rw [if_pos h610] at e; cases e
      rw [if_neg h610] at e
      refine mm_T.guard (c := (4 + x1) < 0 ∨ 28 ≤ (4 + x1).toNatClampNeg) (y := ((25, [some (.ref 62), some (.int x1), some (.int x2), some (.int x3), none], [(.int (I 84 (4 + x1).toNatClampNeg))]), (107, I, J, mm_rf rv sp rr w nw))) (mm_gen (P := fun z => mm_stp none 269 (24, [some (.ref 62), some (.int x1), some (.int x2), some (.int x3), none], [(.int z), (.ref 84)]) (107, I, J, mm_rf rv sp rr w nw) = if z < 0 ∨ 28 ≤ z.toNatClampNeg then none else some (.inl ((25, [some (.ref 62), some (.int x1), some (.int x2), some (.int x3), none], [(.int (I 84 z.toNatClampNeg))]), (107, I, J, mm_rf rv sp rr w nw)))) (4 + x1) (fun z => rfl)) h610 ?_
      refine mm_T.seg (f' := (26, [some (.ref 62), some (.int x1), some (.int x2), some (.int x3), none], [(.int x3), (.int (I 84 (4 + x1).toNatClampNeg))])) (h' := (107, I, J, mm_rf rv sp rr w nw)) 1 rfl ?_
      refine mm_T.br (c := x3 = 0) (a := ((36, [some (.ref 62), some (.int x1), some (.int x2), some (.int x3), none], [(.int (I 84 (4 + x1).toNatClampNeg))]), (107, I, J, mm_rf rv sp rr w nw))) (b := ((29, [some (.ref 62), some (.int x1), some (.int x2), some (.int x3), none], [(.int (I 84 (4 + x1).toNatClampNeg))]), (107, I, J, mm_rf rv sp rr w nw))) rfl (fun h611 => ?_) (fun h611 => ?_)
      · rw [if_pos h611] at e
        refine mm_T.seg (f' := (37, [some (.ref 62), some (.int x1), some (.int x2), some (.int x3), none], [(.int 0), (.int (I 84 (4 + x1).toNatClampNeg))])) (h' := (107, I, J, mm_rf rv sp rr w nw)) 1 rfl ?_
        refine mm_T.mask [true, true, true, true, false] ?_
        exact tbX12_stroke_J37 d n x1 x2 x3 0 (I 84 (4 + x1).toNatClampNeg) I J rv sp rr w nw out e
      · rw [if_neg h611] at e
        refine mm_T.seg (f' := (37, [some (.ref 62), some (.int x1), some (.int x2), some (.int x3), none], [(.int (I 62 47)), (.int (I 84 (4 + x1).toNatClampNeg))])) (h' := (107, I, J, mm_rf rv sp rr w nw)) 3 rfl ?_
        refine mm_T.mask [true, true, true, true, false] ?_
        exact tbX12_stroke_J37 d n x1 x2 x3 (I 62 47) (I 84 (4 + x1).toNatClampNeg) I J rv sp rr w nw out e
set_option maxRecDepth 100000 in
set_option maxHeartbeats 4000000 in
theorem tX12_isAtBank (d : Nat) (x1 : Int32) (I : Nat → Nat → Int32) (J : Nat → Nat → Int64) (rv sp rr w nw : Nat) (out : Int32) (e : fX12_isAtBank x1 I = some out) : mm_T none (d + 0) 270 (mm_ent 270 [(.ref 62), (.int x1)]) (107, I, J, mm_rf rv sp rr w nw) (fun v h => v = some (.int out) ∧ h = (107, I, J, mm_rf rv sp rr w nw)) := by
  unfold fX12_isAtBank at e
  refine mm_T.seg (f' := (7, [some (.ref 62), some (.int x1)], [(.int (4 + x1)), (.ref 84)])) (h' := (107, I, J, mm_rf rv sp rr w nw)) 5 rfl ?_
  by_cases h620 : (4 + x1) < 0 ∨ 28 ≤ (4 + x1).toNatClampNeg
  · rw [if_pos h620] at e; cases e
  rw [if_neg h620] at e
  refine mm_T.guard (c := (4 + x1) < 0 ∨ 28 ≤ (4 + x1).toNatClampNeg) (y := ((8, [some (.ref 62), some (.int x1)], [(.int (I 84 (4 + x1).toNatClampNeg))]), (107, I, J, mm_rf rv sp rr w nw))) (mm_gen (P := fun z => mm_stp none 270 (7, [some (.ref 62), some (.int x1)], [(.int z), (.ref 84)]) (107, I, J, mm_rf rv sp rr w nw) = if z < 0 ∨ 28 ≤ z.toNatClampNeg then none else some (.inl ((8, [some (.ref 62), some (.int x1)], [(.int (I 84 z.toNatClampNeg))]), (107, I, J, mm_rf rv sp rr w nw)))) (4 + x1) (fun z => rfl)) h620 ?_
  refine mm_T.br (c := (I 84 (4 + x1).toNatClampNeg) = 0) (a := ((26, [some (.ref 62), some (.int x1)], []), (107, I, J, mm_rf rv sp rr w nw))) (b := ((11, [some (.ref 62), some (.int x1)], []), (107, I, J, mm_rf rv sp rr w nw))) rfl (fun h621 => ?_) (fun h621 => ?_)
  · rw [if_pos h621] at e
    refine mm_T.seg (f' := (31, [some (.ref 62), some (.int x1)], [(.int 1)])) (h' := (107, I, J, mm_rf rv sp rr w nw)) 2 rfl ?_
    cases e
    exact mm_T.ret rfl ⟨rfl, rfl⟩
  · rw [if_neg h621] at e
    refine mm_T.seg (f' := (18, [some (.ref 62), some (.int x1)], [(.int (4 + x1)), (.ref 84)])) (h' := (107, I, J, mm_rf rv sp rr w nw)) 5 rfl ?_
    by_cases h622 : (4 + x1) < 0 ∨ 28 ≤ (4 + x1).toNatClampNeg
    · rw [if_pos h622] at e; cases e
    rw [if_neg h622] at e
    refine mm_T.guard (c := (4 + x1) < 0 ∨ 28 ≤ (4 + x1).toNatClampNeg) (y := ((19, [some (.ref 62), some (.int x1)], [(.int (I 84 (4 + x1).toNatClampNeg))]), (107, I, J, mm_rf rv sp rr w nw))) (mm_gen (P := fun z => mm_stp none 270 (18, [some (.ref 62), some (.int x1)], [(.int z), (.ref 84)]) (107, I, J, mm_rf rv sp rr w nw) = if z < 0 ∨ 28 ≤ z.toNatClampNeg then none else some (.inl ((19, [some (.ref 62), some (.int x1)], [(.int (I 84 z.toNatClampNeg))]), (107, I, J, mm_rf rv sp rr w nw)))) (4 + x1) (fun z => rfl)) h622 ?_
    refine mm_T.seg (f' := (23, [some (.ref 62), some (.int x1)], [(.int (I 62 47)), (.int (I 84 (4 + x1).toNatClampNeg))])) (h' := (107, I, J, mm_rf rv sp rr w nw)) 2 rfl ?_
    refine mm_T.br (c := (I 84 (4 + x1).toNatClampNeg) = (I 62 47)) (a := ((26, [some (.ref 62), some (.int x1)], []), (107, I, J, mm_rf rv sp rr w nw))) (b := ((30, [some (.ref 62), some (.int x1)], []), (107, I, J, mm_rf rv sp rr w nw))) rfl (fun h623 => ?_) (fun h623 => ?_)
    · rw [if_pos h623] at e
      refine mm_T.seg (f' := (31, [some (.ref 62), some (.int x1)], [(.int 1)])) (h' := (107, I, J, mm_rf rv sp rr w nw)) 2 rfl ?_
      cases e
      exact mm_T.ret rfl ⟨rfl, rfl⟩
    · rw [if_neg h623] at e
      refine mm_T.seg (f' := (31, [some (.ref 62), some (.int x1)], [(.int 0)])) (h' := (107, I, J, mm_rf rv sp rr w nw)) 1 rfl ?_
      cases e
      exact mm_T.ret rfl ⟨rfl, rfl⟩
