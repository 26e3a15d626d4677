def fX12_within (x0 : Int32) (x1 : Int32) : Int32 := (if x0 < 0 then 0 else (if x1 < x0 then x1 else x0))
set_option maxRecDepth 100000 in
set_option maxHeartbeats 4000000 in
theorem tX12_within (d : Nat) (x0 : Int32) (x1 : Int32) (I : Nat → Nat → Int32) (J : Nat → Nat → Int64) (rv sp rr w nw : Nat) (out : Int32) (e : fX12_within x0 x1 = out) : mm_T none (d + 0) 238 (mm_ent 238 [(.int x0), (.int x1)]) (107, I, J, mm_rf rv sp rr w nw) (fun v h => v = some (.int out) ∧ h = (107, I, J, mm_rf rv sp rr w nw)) := by
  unfold fX12_within at e
  refine mm_T.seg (f' := (1, [some (.int x0), some (.int x1)], [(.int x0)])) (h' := (107, I, J, mm_rf rv sp rr w nw)) 1 rfl ?_
  refine mm_T.br (c := x0 < 0) (a := ((4, [some (.int x0), some (.int x1)], []), (107, I, J, mm_rf rv sp rr w nw))) (b := ((8, [some (.int x0), some (.int x1)], []), (107, I, J, mm_rf rv sp rr w nw))) rfl (fun h308 => ?_) (fun h308 => ?_)
  · rw [if_pos h308] at e
    refine mm_T.seg (f' := (18, [some (.int x0), some (.int x1)], [(.int 0)])) (h' := (107, I, J, mm_rf rv sp rr w nw)) 2 rfl ?_
    cases e
    exact mm_T.ret rfl ⟨rfl, rfl⟩
  · rw [if_neg h308] at e
    refine mm_T.seg (f' := (10, [some (.int x0), some (.int x1)], [(.int x1), (.int x0)])) (h' := (107, I, J, mm_rf rv sp rr w nw)) 2 rfl ?_
    refine mm_T.br (c := x1 < x0) (a := ((13, [some (.int x0), some (.int x1)], []), (107, I, J, mm_rf rv sp rr w nw))) (b := ((17, [some (.int x0), some (.int x1)], []), (107, I, J, mm_rf rv sp rr w nw))) rfl (fun h309 => ?_) (fun h309 => ?_)
    · rw [if_pos h309] at e
      refine mm_T.seg (f' := (18, [some (.int x0), some (.int x1)], [(.int x1)])) (h' := (107, I, J, mm_rf rv sp rr w nw)) 2 rfl ?_
      cases e
      exact mm_T.ret rfl ⟨rfl, rfl⟩
    · rw [if_neg h309] at e
      refine mm_T.seg (f' := (18, [some (.int x0), some (.int x1)], [(.int x0)])) (h' := (107, I, J, mm_rf rv sp rr w nw)) 1 rfl ?_
      cases e
      exact mm_T.ret rfl ⟨rfl, rfl⟩
def fX12_plain (x0 : Int32) : Int32 := (if x0 < 0 then (-x0) else x0)
set_option maxRecDepth 100000 in
set_option maxHeartbeats 4000000 in
theorem tX12_plain (d : Nat) (x0 : Int32) (I : Nat → Nat → Int32) (J : Nat → Nat → Int64) (rv sp rr w nw : Nat) (out : Int32) (e : fX12_plain x0 = out) : mm_T none (d + 0) 239 (mm_ent 239 [(.int x0)]) (107, I, J, mm_rf rv sp rr w nw) (fun v h => v = some (.int out) ∧ h = (107, I, J, mm_rf rv sp rr w nw)) := by
  unfold fX12_plain at e
  refine mm_T.seg (f' := (1, [some (.int x0)], [(.int x0)])) (h' := (107, I, J, mm_rf rv sp rr w nw)) 1 rfl ?_
  refine mm_T.br (c := x0 < 0) (a := ((4, [some (.int x0)], []), (107, I, J, mm_rf rv sp rr w nw))) (b := ((9, [some (.int x0)], []), (107, I, J, mm_rf rv sp rr w nw))) rfl (fun h310 => ?_) (fun h310 => ?_)
  · rw [if_pos h310] at e
    refine mm_T.seg (f' := (10, [some (.int x0)], [(.int (-x0))])) (h' := (107, I, J, mm_rf rv sp rr w nw)) 3 rfl ?_
    cases e
    exact mm_T.ret rfl ⟨rfl, rfl⟩
  · rw [if_neg h310] at e
    refine mm_T.seg (f' := (10, [some (.int x0)], [(.int x0)])) (h' := (107, I, J, mm_rf rv sp rr w nw)) 1 rfl ?_
    cases e
    exact mm_T.ret rfl ⟨rfl, rfl⟩
def fX12_burdenOf_L4 (n : Nat) (y1 : Int32) (y2 : Int32) (y3 : Int32) (I : Nat → Nat → Int32) : Option (Int32) := match n with
  | 0 => none
  | n + 1 => (if y3 < (I 62 49) then (if (20 + y3) < 0 ∨ 28 ≤ (20 + y3).toNatClampNeg then none else (if (I 85 (20 + y3).toNatClampNeg) = y1 then (if y3 < 0 ∨ 7 ≤ y3.toNatClampNeg then none else fX12_burdenOf_L4 n y1 (y2 + (I 83 y3.toNatClampNeg)) (y3 + 1) I) else fX12_burdenOf_L4 n y1 (y2 + 0) (y3 + 1) I)) else some y2)
def fX12_burdenOf (n : Nat) (x1 : Int32) (I : Nat → Nat → Int32) : Option (Int32) := (fX12_burdenOf_L4 n x1 0 0 I).bind fun o315 => some o315
set_option maxRecDepth 100000 in
set_option maxHeartbeats 4000000 in
theorem tlX12_burdenOf_L4 (d : Nat) (Q : Option Value → mm_H → Prop) : ∀ (n : Nat) (y1 : Int32) (y2 : Int32) (y3 : Int32) (I : Nat → Nat → Int32) (J : Nat → Nat → Int64) (rv sp rr w nw : Nat), ∀ (out : Int32), fX12_burdenOf_L4 n y1 y2 y3 I = some out → mm_T none (d + 0) 240 (44, [none, none, some (.int out), none], []) (107, I, J, mm_rf rv sp rr w nw) Q → mm_T none (d + 0) 240 (4, [some (.ref 62), some (.int y1), some (.int y2), some (.int y3)], []) (107, I, J, mm_rf rv sp rr w nw) Q := by
  intro n
  induction n with
  | zero =>
    intro y1 y2 y3 I J rv sp rr w nw out e k
    rw [fX12_burdenOf_L4] at e; cases e
  | succ n ih =>
    intro y1 y2 y3 I J rv sp rr w nw out e k
    rw [fX12_burdenOf_L4] at e
    refine mm_T.seg (f' := (9, [some (.ref 62), some (.int y1), some (.int y2), some (.int y3)], [(.int (I 62 49)), (.int y3)])) (h' := (107, I, J, mm_rf rv sp rr w nw)) 3 rfl ?_
    refine mm_T.br (c := y3 < (I 62 49)) (a := ((12, [some (.ref 62), some (.int y1), some (.int y2), some (.int y3)], []), (107, I, J, mm_rf rv sp rr w nw))) (b := ((44, [some (.ref 62), some (.int y1), some (.int y2), some (.int y3)], []), (107, I, J, mm_rf rv sp rr w nw))) rfl (fun h311 => ?_) (fun h311 => ?_)
    · rw [if_pos h311] at e
      refine mm_T.seg (f' := (21, [some (.ref 62), some (.int y1), some (.int y2), some (.int y3)], [(.int (20 + y3)), (.ref 85), (.int y2)])) (h' := (107, I, J, mm_rf rv sp rr w nw)) 6 rfl ?_
      by_cases h312 : (20 + y3) < 0 ∨ 28 ≤ (20 + y3).toNatClampNeg
      · rw [if_pos h312] at e; cases e
      rw [if_neg h312] at e
      refine mm_T.guard (y := ((22, [some (.ref 62), some (.int y1), some (.int y2), some (.int y3)], [(.int (I 85 (20 + y3).toNatClampNeg)), (.int y2)]), (107, I, J, mm_rf rv sp rr w nw))) rfl h312 ?_
      refine mm_T.seg (f' := (23, [some (.ref 62), some (.int y1), some (.int y2), some (.int y3)], [(.int y1), (.int (I 85 (20 + y3).toNatClampNeg)), (.int y2)])) (h' := (107, I, J, mm_rf rv sp rr w nw)) 1 rfl ?_
      refine mm_T.br (c := (I 85 (20 + y3).toNatClampNeg) = y1) (a := ((26, [some (.ref 62), some (.int y1), some (.int y2), some (.int y3)], [(.int y2)]), (107, I, J, mm_rf rv sp rr w nw))) (b := ((35, [some (.ref 62), some (.int y1), some (.int y2), some (.int y3)], [(.int y2)]), (107, I, J, mm_rf rv sp rr w nw))) rfl (fun h313 => ?_) (fun h313 => ?_)
      · rw [if_pos h313] at e
        refine mm_T.seg (f' := (31, [some (.ref 62), some (.int y1), some (.int y2), some (.int y3)], [(.int y3), (.ref 83), (.int y2)])) (h' := (107, I, J, mm_rf rv sp rr w nw)) 3 rfl ?_
        by_cases h314 : y3 < 0 ∨ 7 ≤ y3.toNatClampNeg
        · rw [if_pos h314] at e; cases e
        rw [if_neg h314] at e
        refine mm_T.guard (y := ((32, [some (.ref 62), some (.int y1), some (.int y2), some (.int y3)], [(.int (I 83 y3.toNatClampNeg)), (.int y2)]), (107, I, J, mm_rf rv sp rr w nw))) rfl h314 ?_
        refine mm_T.seg (f' := (4, [some (.ref 62), some (.int y1), some (.int (y2 + (I 83 y3.toNatClampNeg))), some (.int (y3 + 1))], [])) (h' := (107, I, J, mm_rf rv sp rr w nw)) 5 rfl ?_
        refine mm_T.mask [true, true, true, true] ?_
        exact ih y1 (y2 + (I 83 y3.toNatClampNeg)) (y3 + 1) I J rv sp rr w nw out e k
      · rw [if_neg h313] at e
        refine mm_T.seg (f' := (4, [some (.ref 62), some (.int y1), some (.int (y2 + 0)), some (.int (y3 + 1))], [])) (h' := (107, I, J, mm_rf rv sp rr w nw)) 5 rfl ?_
        refine mm_T.mask [true, true, true, true] ?_
        exact ih y1 (y2 + 0) (y3 + 1) I J rv sp rr w nw out e k
    · rw [if_neg h311] at e
      cases e
      refine mm_T.mask [false, false, true, false] ?_
      exact k
set_option maxRecDepth 100000 in
set_option maxHeartbeats 4000000 in
theorem tX12_burdenOf (d n : Nat) (x1 : Int32) (I : Nat → Nat → Int32) (J : Nat → Nat → Int64) (rv sp rr w nw : Nat) (out : Int32) (e : fX12_burdenOf n x1 I = some out) : mm_T none (d + 0) 240 (mm_ent 240 [(.ref 62), (.int x1)]) (107, I, J, mm_rf rv sp rr w nw) (fun v h => v = some (.int out) ∧ h = (107, I, J, mm_rf rv sp rr w nw)) := by
  unfold fX12_burdenOf at e
  refine mm_T.seg (f' := (4, [some (.ref 62), some (.int x1), some (.int 0), some (.int 0)], [])) (h' := (107, I, J, mm_rf rv sp rr w nw)) 4 rfl ?_
  refine mm_T.mask [true, true, true, true] ?_
  obtain ⟨o315, eo315, e⟩ := mm_bind e
  refine tlX12_burdenOf_L4 d _ n x1 0 0 I J rv sp rr w nw o315 eo315 ?_
  refine mm_T.seg (f' := (45, [none, none, some (.int o315), none], [(.int o315)])) (h' := (107, I, J, mm_rf rv sp rr w nw)) 1 rfl ?_
  cases e
  exact mm_T.ret rfl ⟨rfl, rfl⟩
def fX12_hotterOf_L90 (n : Nat) (y2 : Int32) (y3 : Int32) (I : Nat → Nat → Int32) : Option ((Nat → Nat → Int32)) := match n with
  | 0 => none
  | n + 1 => (if y3 < (I 62 18) then (if y3 < 0 ∨ 320 ≤ y3.toNatClampNeg then none else (if (I 67 y3.toNatClampNeg) = 0 then (if y3 < 0 ∨ 320 ≤ y3.toNatClampNeg then none else (if (I 67 y3.toNatClampNeg) = 0 then (if y3 < 0 ∨ 320 ≤ y3.toNatClampNeg then none else (if y2 < 0 ∨ 64 ≤ y2.toNatClampNeg then none else fX12_hotterOf_L90 n (y2 + 1) (y3 + 1) (mm_up I 70 y2.toNatClampNeg (I 68 y3.toNatClampNeg)))) else (if y3 < 0 ∨ 320 ≤ y3.toNatClampNeg then none else (if (I 68 y3.toNatClampNeg) < 0 ∨ 6 ≤ (I 68 y3.toNatClampNeg).toNatClampNeg then none else (if y2 < 0 ∨ 64 ≤ y2.toNatClampNeg then none else fX12_hotterOf_L90 n (y2 + 1) (y3 + 1) (mm_up I 70 y2.toNatClampNeg (I 71 (I 68 y3.toNatClampNeg).toNatClampNeg))))))) else (if y3 < 0 ∨ 320 ≤ y3.toNatClampNeg then none else (if (I 67 y3.toNatClampNeg) = 1 then (if y3 < 0 ∨ 320 ≤ y3.toNatClampNeg then none else (if (I 67 y3.toNatClampNeg) = 0 then (if y3 < 0 ∨ 320 ≤ y3.toNatClampNeg then none else (if y2 < 0 ∨ 64 ≤ y2.toNatClampNeg then none else fX12_hotterOf_L90 n (y2 + 1) (y3 + 1) (mm_up I 70 y2.toNatClampNeg (I 68 y3.toNatClampNeg)))) else (if y3 < 0 ∨ 320 ≤ y3.toNatClampNeg then none else (if (I 68 y3.toNatClampNeg) < 0 ∨ 6 ≤ (I 68 y3.toNatClampNeg).toNatClampNeg then none else (if y2 < 0 ∨ 64 ≤ y2.toNatClampNeg then none else fX12_hotterOf_L90 n (y2 + 1) (y3 + 1) (mm_up I 70 y2.toNatClampNeg (I 71 (I 68 y3.toNatClampNeg).toNatClampNeg))))))) else (if y3 < 0 ∨ 320 ≤ y3.toNatClampNeg then none else (if (I 67 y3.toNatClampNeg) = 2 then (if (y2 - 1) < 0 ∨ 64 ≤ (y2 - 1).toNatClampNeg then none else (if (I 70 (y2 - 1).toNatClampNeg) = 0 then (if (y2 - 1) < 0 ∨ 64 ≤ (y2 - 1).toNatClampNeg then none else fX12_hotterOf_L90 n y2 (y3 + 1) (mm_up I 70 (y2 - 1).toNatClampNeg (fX12_truth 1))) else (if (y2 - 1) < 0 ∨ 64 ≤ (y2 - 1).toNatClampNeg then none else fX12_hotterOf_L90 n y2 (y3 + 1) (mm_up I 70 (y2 - 1).toNatClampNeg (fX12_truth 0))))) else (if y3 < 0 ∨ 320 ≤ y3.toNatClampNeg then none else (if ((y2 + (-1)) - 1) < 0 ∨ 64 ≤ ((y2 + (-1)) - 1).toNatClampNeg then none else (if (y2 + (-1)) < 0 ∨ 64 ≤ (y2 + (-1)).toNatClampNeg then none else (fX12_done (I 68 y3.toNatClampNeg) (I 70 ((y2 + (-1)) - 1).toNatClampNeg) (I 70 (y2 + (-1)).toNatClampNeg)).bind fun o350 => (if ((y2 + (-1)) - 1) < 0 ∨ 64 ≤ ((y2 + (-1)) - 1).toNatClampNeg then none else fX12_hotterOf_L90 n (y2 + (-1)) (y3 + 1) (mm_up I 70 ((y2 + (-1)) - 1).toNatClampNeg o350))))))))))) else some I)
def fX12_hotterOf (n : Nat) (x1 : Int32) (I : Nat → Nat → Int32) : Option (Int32 × (Nat → Nat → Int32)) := (if (4 + x1) < 0 ∨ 28 ≤ (4 + x1).toNatClampNeg then none else (if x1 < 0 ∨ 28 ≤ x1.toNatClampNeg then none else (fX12_burdenOf n x1 (mm_up (mm_up I 71 0 (I 85 (4 + x1).toNatClampNeg)) 71 1 (I 85 x1.toNatClampNeg))).bind fun o318 => (if x1 < 0 ∨ 4 ≤ x1.toNatClampNeg then none else (if (16 + x1) < 0 ∨ 28 ≤ (16 + x1).toNatClampNeg then none else (if (8 + x1) < 0 ∨ 28 ≤ (8 + x1).toNatClampNeg then none else (fX12_hotterOf_L90 n 0 0 (mm_up (mm_up (mm_up (mm_up (mm_up (mm_up (mm_up I 71 0 (I 85 (4 + x1).toNatClampNeg)) 71 1 (I 85 x1.toNatClampNeg)) 71 2 o318) 71 3 (I 80 x1.toNatClampNeg)) 71 4 (I 85 (16 + x1).toNatClampNeg)) 71 5 (I 85 (8 + x1).toNatClampNeg)) 70 0 1)).bind fun o352 => some ((fX12_within (o352 70 0) 99), o352))))))
set_option maxRecDepth 100000 in
set_option maxHeartbeats 4000000 in
theorem tlX12_hotterOf_L90 (d : Nat) (Q : Option Value → mm_H → Prop) : ∀ (n : Nat) (y2 : Int32) (y3 : Int32) (I : Nat → Nat → Int32) (J : Nat → Nat → Int64) (rv sp rr w nw : Nat), ∀ (out : (Nat → Nat → Int32)), fX12_hotterOf_L90 n y2 y3 I = some out → mm_T none (d + 2) 241 (238, [some (.ref 62), none, none, none], []) (107, out, J, mm_rf rv sp rr w nw) Q → mm_T none (d + 2) 241 (90, [some (.ref 62), none, some (.int y2), some (.int y3)], []) (107, I, J, mm_rf rv sp rr w nw) Q := by
  intro n
  induction n with
  | zero =>
    intro y2 y3 I J rv sp rr w nw out e k
    rw [fX12_hotterOf_L90] at e; cases e
  | succ n ih =>
    intro y2 y3 I J rv sp rr w nw out e k
    rw [fX12_hotterOf_L90] at e
    refine mm_T.seg (f' := (95, [some (.ref 62), none, some (.int y2), some (.int y3)], [(.int (I 62 18)), (.int y3)])) (h' := (107, I, J, mm_rf rv sp rr w nw)) 3 rfl ?_
    refine mm_T.br (c := y3 < (I 62 18)) (a := ((98, [some (.ref 62), none, some (.int y2), some (.int y3)], []), (107, I, J, mm_rf rv sp rr w nw))) (b := ((238, [some (.ref 62), none, some (.int y2), some (.int y3)], []), (107, I, J, mm_rf rv sp rr w nw))) rfl (fun h322 => ?_) (fun h322 => ?_)
    · rw [if_pos h322] at e
      refine mm_T.seg (f' := (103, [some (.ref 62), none, some (.int y2), some (.int y3)], [(.int y3), (.ref 67)])) (h' := (107, I, J, mm_rf rv sp rr w nw)) 3 rfl ?_
      by_cases h323 : y3 < 0 ∨ 320 ≤ y3.toNatClampNeg
      · rw [if_pos h323] at e; cases e
      rw [if_neg h323] at e
      refine mm_T.guard (y := ((104, [some (.ref 62), none, some (.int y2), some (.int y3)], [(.int (I 67 y3.toNatClampNeg))]), (107, I, J, mm_rf rv sp rr w nw))) rfl h323 ?_
      refine mm_T.br (c := (I 67 y3.toNatClampNeg) = 0) (a := ((117, [some (.ref 62), none, some (.int y2), some (.int y3)], []), (107, I, J, mm_rf rv sp rr w nw))) (b := ((107, [some (.ref 62), none, some (.int y2), some (.int y3)], []), (107, I, J, mm_rf rv sp rr w nw))) rfl (fun h324 => ?_) (fun h324 => ?_)
      · rw [if_pos h324] at e
        refine mm_T.seg (f' := (127, [some (.ref 62), none, some (.int y2), some (.int y3)], [(.int y3), (.ref 67), (.int y2), (.ref 70)])) (h' := (107, I, J, mm_rf rv sp rr w nw)) 6 rfl ?_
        by_cases h325 : y3 < 0 ∨ 320 ≤ y3.toNatClampNeg
        · rw [if_pos h325] at e; cases e
        rw [if_neg h325] at e
        refine mm_T.guard (y := ((128, [some (.ref 62), none, some (.int y2), some (.int y3)], [(.int (I 67 y3.toNatClampNeg)), (.int y2), (.ref 70)]), (107, I, J, mm_rf rv sp rr w nw))) rfl h325 ?_
        refine mm_T.br (c := (I 67 y3.toNatClampNeg) = 0) (a := ((131, [some (.ref 62), none, some (.int y2), some (.int y3)], [(.int y2), (.ref 70)]), (107, I, J, mm_rf rv sp rr w nw))) (b := ((140, [some (.ref 62), none, some (.int y2), some (.int y3)], [(.int y2), (.ref 70)]), (107, I, J, mm_rf rv sp rr w nw))) rfl (fun h326 => ?_) (fun h326 => ?_)
        · rw [if_pos h326] at e
          refine mm_T.seg (f' := (136, [some (.ref 62), none, some (.int y2), some (.int y3)], [(.int y3), (.ref 68), (.int y2), (.ref 70)])) (h' := (107, I, J, mm_rf rv sp rr w nw)) 3 rfl ?_
          by_cases h327 : y3 < 0 ∨ 320 ≤ y3.toNatClampNeg
          · rw [if_pos h327] at e; cases e
          rw [if_neg h327] at e
          refine mm_T.guard (y := ((137, [some (.ref 62), none, some (.int y2), some (.int y3)], [(.int (I 68 y3.toNatClampNeg)), (.int y2), (.ref 70)]), (107, I, J, mm_rf rv sp rr w nw))) rfl h327 ?_
          refine mm_T.seg (f' := (151, [some (.ref 62), none, some (.int y2), some (.int y3)], [(.int (I 68 y3.toNatClampNeg)), (.int y2), (.ref 70)])) (h' := (107, I, J, mm_rf rv sp rr w nw)) 1 rfl ?_
          by_cases h328 : y2 < 0 ∨ 64 ≤ y2.toNatClampNeg
          · rw [if_pos h328] at e; cases e
          rw [if_neg h328] at e
          refine mm_T.guard (y := ((152, [some (.ref 62), none, some (.int y2), some (.int y3)], []), (107, (mm_up I 70 y2.toNatClampNeg (I 68 y3.toNatClampNeg)), J, mm_rf rv sp rr w nw))) rfl h328 ?_
          refine mm_T.seg (f' := (90, [some (.ref 62), none, some (.int (y2 + 1)), some (.int (y3 + 1))], [])) (h' := (107, (mm_up I 70 y2.toNatClampNeg (I 68 y3.toNatClampNeg)), J, mm_rf rv sp rr w nw)) 4 rfl ?_
          refine mm_T.mask [true, false, true, true] ?_
          exact ih (y2 + 1) (y3 + 1) (mm_up I 70 y2.toNatClampNeg (I 68 y3.toNatClampNeg)) J rv sp rr w nw out e k
        · rw [if_neg h326] at e
          refine mm_T.seg (f' := (149, [some (.ref 62), none, some (.int y2), some (.int y3)], [(.int y3), (.ref 68), (.ref 71), (.int y2), (.ref 70)])) (h' := (107, I, J, mm_rf rv sp rr w nw)) 5 rfl ?_
          by_cases h329 : y3 < 0 ∨ 320 ≤ y3.toNatClampNeg
          · rw [if_pos h329] at e; cases e
          rw [if_neg h329] at e
          refine mm_T.guard (y := ((150, [some (.ref 62), none, some (.int y2), some (.int y3)], [(.int (I 68 y3.toNatClampNeg)), (.ref 71), (.int y2), (.ref 70)]), (107, I, J, mm_rf rv sp rr w nw))) rfl h329 ?_
          by_cases h330 : (I 68 y3.toNatClampNeg) < 0 ∨ 6 ≤ (I 68 y3.toNatClampNeg).toNatClampNeg
          · rw [if_pos h330] at e; cases e
          rw [if_neg h330] at e
          refine mm_T.guard (y := ((151, [some (.ref 62), none, some (.int y2), some (.int y3)], [(.int (I 71 (I 68 y3.toNatClampNeg).toNatClampNeg)), (.int y2), (.ref 70)]), (107, I, J, mm_rf rv sp rr w nw))) rfl h330 ?_
          by_cases h331 : y2 < 0 ∨ 64 ≤ y2.toNatClampNeg
          · rw [if_pos h331] at e; cases e
          rw [if_neg h331] at e
          refine mm_T.guard (y := ((152, [some (.ref 62), none, some (.int y2), some (.int y3)], []), (107, (mm_up I 70 y2.toNatClampNeg (I 71 (I 68 y3.toNatClampNeg).toNatClampNeg)), J, mm_rf rv sp rr w nw))) rfl h331 ?_
          refine mm_T.seg (f' := (90, [some (.ref 62), none, some (.int (y2 + 1)), some (.int (y3 + 1))], [])) (h' := (107, (mm_up I 70 y2.toNatClampNeg (I 71 (I 68 y3.toNatClampNeg).toNatClampNeg)), J, mm_rf rv sp rr w nw)) 4 rfl ?_
          refine mm_T.mask [true, false, true, true] ?_
          exact ih (y2 + 1) (y3 + 1) (mm_up I 70 y2.toNatClampNeg (I 71 (I 68 y3.toNatClampNeg).toNatClampNeg)) J rv sp rr w nw out e k
      · rw [if_neg h324] at e
        refine mm_T.seg (f' := (112, [some (.ref 62), none, some (.int y2), some (.int y3)], [(.int y3), (.ref 67)])) (h' := (107, I, J, mm_rf rv sp rr w nw)) 3 rfl ?_
        by_cases h332 : y3 < 0 ∨ 320 ≤ y3.toNatClampNeg
        · rw [if_pos h332] at e; cases e
        rw [if_neg h332] at e
        refine mm_T.guard (y := ((113, [some (.ref 62), none, some (.int y2), some (.int y3)], [(.int (I 67 y3.toNatClampNeg))]), (107, I, J, mm_rf rv sp rr w nw))) rfl h332 ?_
        refine mm_T.seg (f' := (114, [some (.ref 62), none, some (.int y2), some (.int y3)], [(.int 1), (.int (I 67 y3.toNatClampNeg))])) (h' := (107, I, J, mm_rf rv sp rr w nw)) 1 rfl ?_
        refine mm_T.br (c := (I 67 y3.toNatClampNeg) = 1) (a := ((117, [some (.ref 62), none, some (.int y2), some (.int y3)], []), (107, I, J, mm_rf rv sp rr w nw))) (b := ((158, [some (.ref 62), none, some (.int y2), some (.int y3)], []), (107, I, J, mm_rf rv sp rr w nw))) rfl (fun h333 => ?_) (fun h333 => ?_)
        · rw [if_pos h333] at e
          refine mm_T.seg (f' := (127, [some (.ref 62), none, some (.int y2), some (.int y3)], [(.int y3), (.ref 67), (.int y2), (.ref 70)])) (h' := (107, I, J, mm_rf rv sp rr w nw)) 6 rfl ?_
          by_cases h334 : y3 < 0 ∨ 320 ≤ y3.toNatClampNeg
          · rw [if_pos h334] at e; cases e
          rw [if_neg h334] at e
          refine mm_T.guard (y := ((128, [some (.ref 62), none, some (.int y2), some (.int y3)], [(.int (I 67 y3.toNatClampNeg)), (.int y2), (.ref 70)]), (107, I, J, mm_rf rv sp rr w nw))) rfl h334 ?_
          refine mm_T.br (c := (I 67 y3.toNatClampNeg) = 0) (a := ((131, [some (.ref 62), none, some (.int y2), some (.int y3)], [(.int y2), (.ref 70)]), (107, I, J, mm_rf rv sp rr w nw))) (b := ((140, [some (.ref 62), none, some (.int y2), some (.int y3)], [(.int y2), (.ref 70)]), (107, I, J, mm_rf rv sp rr w nw))) rfl (fun h335 => ?_) (fun h335 => ?_)
          · rw [if_pos h335] at e
            refine mm_T.seg (f' := (136, [some (.ref 62), none, some (.int y2), some (.int y3)], [(.int y3), (.ref 68), (.int y2), (.ref 70)])) (h' := (107, I, J, mm_rf rv sp rr w nw)) 3 rfl ?_
            by_cases h336 : y3 < 0 ∨ 320 ≤ y3.toNatClampNeg
            · rw [if_pos h336] at e; cases e
            rw [if_neg h336] at e
            refine mm_T.guard (y := ((137, [some (.ref 62), none, some (.int y2), some (.int y3)], [(.int (I 68 y3.toNatClampNeg)), (.int y2), (.ref 70)]), (107, I, J, mm_rf rv sp rr w nw))) rfl h336 ?_
            refine mm_T.seg (f' := (151, [some (.ref 62), none, some (.int y2), some (.int y3)], [(.int (I 68 y3.toNatClampNeg)), (.int y2), (.ref 70)])) (h' := (107, I, J, mm_rf rv sp rr w nw)) 1 rfl ?_
            by_cases h337 : y2 < 0 ∨ 64 ≤ y2.toNatClampNeg
            · rw [if_pos h337] at e; cases e
            rw [if_neg h337] at e
            refine mm_T.guard (y := ((152, [some (.ref 62), none, some (.int y2), some (.int y3)], []), (107, (mm_up I 70 y2.toNatClampNeg (I 68 y3.toNatClampNeg)), J, mm_rf rv sp rr w nw))) rfl h337 ?_
            refine mm_T.seg (f' := (90, [some (.ref 62), none, some (.int (y2 + 1)), some (.int (y3 + 1))], [])) (h' := (107, (mm_up I 70 y2.toNatClampNeg (I 68 y3.toNatClampNeg)), J, mm_rf rv sp rr w nw)) 4 rfl ?_
            refine mm_T.mask [true, false, true, true] ?_
            exact ih (y2 + 1) (y3 + 1) (mm_up I 70 y2.toNatClampNeg (I 68 y3.toNatClampNeg)) J rv sp rr w nw out e k
          · rw [if_neg h335] at e
            refine mm_T.seg (f' := (149, [some (.ref 62), none, some (.int y2), some (.int y3)], [(.int y3), (.ref 68), (.ref 71), (.int y2), (.ref 70)])) (h' := (107, I, J, mm_rf rv sp rr w nw)) 5 rfl ?_
            by_cases h338 : y3 < 0 ∨ 320 ≤ y3.toNatClampNeg
            · rw [if_pos h338] at e; cases e
            rw [if_neg h338] at e
            refine mm_T.guard (y := ((150, [some (.ref 62), none, some (.int y2), some (.int y3)], [(.int (I 68 y3.toNatClampNeg)), (.ref 71), (.int y2), (.ref 70)]), (107, I, J, mm_rf rv sp rr w nw))) rfl h338 ?_
            by_cases h339 : (I 68 y3.toNatClampNeg) < 0 ∨ 6 ≤ (I 68 y3.toNatClampNeg).toNatClampNeg
            · rw [if_pos h339] at e; cases e
            rw [if_neg h339] at e
            refine mm_T.guard (y := ((151, [some (.ref 62), none, some (.int y2), some (.int y3)], [(.int (I 71 (I 68 y3.toNatClampNeg).toNatClampNeg)), (.int y2), (.ref 70)]), (107, I, J, mm_rf rv sp rr w nw))) rfl h339 ?_
            by_cases h340 : y2 < 0 ∨ 64 ≤ y2.toNatClampNeg
            · rw [if_pos h340] at e; cases e
            rw [if_neg h340] at e
            refine mm_T.guard (y := ((152, [some (.ref 62), none, some (.int y2), some (.int y3)], []), (107, (mm_up I 70 y2.toNatClampNeg (I 71 (I 68 y3.toNatClampNeg).toNatClampNeg)), J, mm_rf rv sp rr w nw))) rfl h340 ?_
            refine mm_T.seg (f' := (90, [some (.ref 62), none, some (.int (y2 + 1)), some (.int (y3 + 1))], [])) (h' := (107, (mm_up I 70 y2.toNatClampNeg (I 71 (I 68 y3.toNatClampNeg).toNatClampNeg)), J, mm_rf rv sp rr w nw)) 4 rfl ?_
            refine mm_T.mask [true, false, true, true] ?_
            exact ih (y2 + 1) (y3 + 1) (mm_up I 70 y2.toNatClampNeg (I 71 (I 68 y3.toNatClampNeg).toNatClampNeg)) J rv sp rr w nw out e k
        · rw [if_neg h333] at e
          refine mm_T.seg (f' := (163, [some (.ref 62), none, some (.int y2), some (.int y3)], [(.int y3), (.ref 67)])) (h' := (107, I, J, mm_rf rv sp rr w nw)) 3 rfl ?_
          by_cases h341 : y3 < 0 ∨ 320 ≤ y3.toNatClampNeg
          · rw [if_pos h341] at e; cases e
          rw [if_neg h341] at e
          refine mm_T.guard (y := ((164, [some (.ref 62), none, some (.int y2), some (.int y3)], [(.int (I 67 y3.toNatClampNeg))]), (107, I, J, mm_rf rv sp rr w nw))) rfl h341 ?_
          refine mm_T.seg (f' := (165, [some (.ref 62), none, some (.int y2), some (.int y3)], [(.int 2), (.int (I 67 y3.toNatClampNeg))])) (h' := (107, I, J, mm_rf rv sp rr w nw)) 1 rfl ?_
          refine mm_T.br (c := (I 67 y3.toNatClampNeg) = 2) (a := ((168, [some (.ref 62), none, some (.int y2), some (.int y3)], []), (107, I, J, mm_rf rv sp rr w nw))) (b := ((198, [some (.ref 62), none, some (.int y2), some (.int y3)], []), (107, I, J, mm_rf rv sp rr w nw))) rfl (fun h342 => ?_) (fun h342 => ?_)
          · rw [if_pos h342] at e
            refine mm_T.seg (f' := (182, [some (.ref 62), none, some (.int y2), some (.int y3)], [(.int (y2 - 1)), (.ref 70), (.int (y2 - 1)), (.ref 70)])) (h' := (107, I, J, mm_rf rv sp rr w nw)) 10 rfl ?_
            by_cases h343 : (y2 - 1) < 0 ∨ 64 ≤ (y2 - 1).toNatClampNeg
            · rw [if_pos h343] at e; cases e
            rw [if_neg h343] at e
            refine mm_T.guard (y := ((183, [some (.ref 62), none, some (.int y2), some (.int y3)], [(.int (I 70 (y2 - 1).toNatClampNeg)), (.int (y2 - 1)), (.ref 70)]), (107, I, J, mm_rf rv sp rr w nw))) rfl h343 ?_
            refine mm_T.br (c := (I 70 (y2 - 1).toNatClampNeg) = 0) (a := ((186, [some (.ref 62), none, some (.int y2), some (.int y3)], [(.int (y2 - 1)), (.ref 70)]), (107, I, J, mm_rf rv sp rr w nw))) (b := ((190, [some (.ref 62), none, some (.int y2), some (.int y3)], [(.int (y2 - 1)), (.ref 70)]), (107, I, J, mm_rf rv sp rr w nw))) rfl (fun h344 => ?_) (fun h344 => ?_)
            · rw [if_pos h344] at e
              refine mm_T.seg (f' := (191, [some (.ref 62), none, some (.int y2), some (.int y3)], [(.int 1), (.int (y2 - 1)), (.ref 70)])) (h' := (107, I, J, mm_rf rv sp rr w nw)) 2 rfl ?_
              refine mm_T.call (t := 236) (as := [(.int 1)]) (f' := (194, [some (.ref 62), none, some (.int y2), some (.int y3)], [(.int (y2 - 1)), (.ref 70)])) rfl (tX12_truth (d + 1) 1 I J rv sp rr w nw _ rfl) (fun v h hq => ?_)
              obtain ⟨rfl, rfl⟩ := hq
              by_cases h345 : (y2 - 1) < 0 ∨ 64 ≤ (y2 - 1).toNatClampNeg
              · rw [if_pos h345] at e; cases e
              rw [if_neg h345] at e
              refine mm_T.guard (y := ((195, [some (.ref 62), none, some (.int y2), some (.int y3)], []), (107, (mm_up I 70 (y2 - 1).toNatClampNeg (fX12_truth 1)), J, mm_rf rv sp rr w nw))) rfl h345 ?_
              refine mm_T.seg (f' := (90, [some (.ref 62), none, some (.int y2), some (.int (y3 + 1))], [])) (h' := (107, (mm_up I 70 (y2 - 1).toNatClampNeg (fX12_truth 1)), J, mm_rf rv sp rr w nw)) 3 rfl ?_
              refine mm_T.mask [true, false, true, true] ?_
              exact ih y2 (y3 + 1) (mm_up I 70 (y2 - 1).toNatClampNeg (fX12_truth 1)) J rv sp rr w nw out e k
            · rw [if_neg h344] at e
              refine mm_T.seg (f' := (191, [some (.ref 62), none, some (.int y2), some (.int y3)], [(.int 0), (.int (y2 - 1)), (.ref 70)])) (h' := (107, I, J, mm_rf rv sp rr w nw)) 1 rfl ?_
              refine mm_T.call (t := 236) (as := [(.int 0)]) (f' := (194, [some (.ref 62), none, some (.int y2), some (.int y3)], [(.int (y2 - 1)), (.ref 70)])) rfl (tX12_truth (d + 1) 0 I J rv sp rr w nw _ rfl) (fun v h hq => ?_)
              obtain ⟨rfl, rfl⟩ := hq
              by_cases h346 : (y2 - 1) < 0 ∨ 64 ≤ (y2 - 1).toNatClampNeg
              · rw [if_pos h346] at e; cases e
              rw [if_neg h346] at e
              refine mm_T.guard (y := ((195, [some (.ref 62), none, some (.int y2), some (.int y3)], []), (107, (mm_up I 70 (y2 - 1).toNatClampNeg (fX12_truth 0)), J, mm_rf rv sp rr w nw))) rfl h346 ?_
              refine mm_T.seg (f' := (90, [some (.ref 62), none, some (.int y2), some (.int (y3 + 1))], [])) (h' := (107, (mm_up I 70 (y2 - 1).toNatClampNeg (fX12_truth 0)), J, mm_rf rv sp rr w nw)) 3 rfl ?_
              refine mm_T.mask [true, false, true, true] ?_
              exact ih y2 (y3 + 1) (mm_up I 70 (y2 - 1).toNatClampNeg (fX12_truth 0)) J rv sp rr w nw out e k
          · rw [if_neg h342] at e
            refine mm_T.seg (f' := (213, [some (.ref 62), none, some (.int (y2 + (-1))), some (.int y3)], [(.int y3), (.ref 68), (.int ((y2 + (-1)) - 1)), (.ref 70)])) (h' := (107, I, J, mm_rf rv sp rr w nw)) 9 rfl ?_
            by_cases h347 : y3 < 0 ∨ 320 ≤ y3.toNatClampNeg
            · rw [if_pos h347] at e; cases e
            rw [if_neg h347] at e
            refine mm_T.guard (y := ((214, [some (.ref 62), none, some (.int (y2 + (-1))), some (.int y3)], [(.int (I 68 y3.toNatClampNeg)), (.int ((y2 + (-1)) - 1)), (.ref 70)]), (107, I, J, mm_rf rv sp rr w nw))) rfl h347 ?_
            refine mm_T.seg (f' := (221, [some (.ref 62), none, some (.int (y2 + (-1))), some (.int y3)], [(.int ((y2 + (-1)) - 1)), (.ref 70), (.int (I 68 y3.toNatClampNeg)), (.int ((y2 + (-1)) - 1)), (.ref 70)])) (h' := (107, I, J, mm_rf rv sp rr w nw)) 5 rfl ?_
            by_cases h348 : ((y2 + (-1)) - 1) < 0 ∨ 64 ≤ ((y2 + (-1)) - 1).toNatClampNeg
            · rw [if_pos h348] at e; cases e
            rw [if_neg h348] at e
            refine mm_T.guard (y := ((222, [some (.ref 62), none, some (.int (y2 + (-1))), some (.int y3)], [(.int (I 70 ((y2 + (-1)) - 1).toNatClampNeg)), (.int (I 68 y3.toNatClampNeg)), (.int ((y2 + (-1)) - 1)), (.ref 70)]), (107, I, J, mm_rf rv sp rr w nw))) rfl h348 ?_
            refine mm_T.seg (f' := (227, [some (.ref 62), none, some (.int (y2 + (-1))), some (.int y3)], [(.int (y2 + (-1))), (.ref 70), (.int (I 70 ((y2 + (-1)) - 1).toNatClampNeg)), (.int (I 68 y3.toNatClampNeg)), (.int ((y2 + (-1)) - 1)), (.ref 70)])) (h' := (107, I, J, mm_rf rv sp rr w nw)) 3 rfl ?_
            by_cases h349 : (y2 + (-1)) < 0 ∨ 64 ≤ (y2 + (-1)).toNatClampNeg
            · rw [if_pos h349] at e; cases e
            rw [if_neg h349] at e
            refine mm_T.guard (y := ((228, [some (.ref 62), none, some (.int (y2 + (-1))), some (.int y3)], [(.int (I 70 (y2 + (-1)).toNatClampNeg)), (.int (I 70 ((y2 + (-1)) - 1).toNatClampNeg)), (.int (I 68 y3.toNatClampNeg)), (.int ((y2 + (-1)) - 1)), (.ref 70)]), (107, I, J, mm_rf rv sp rr w nw))) rfl h349 ?_
            obtain ⟨o350, eo350, e⟩ := mm_bind e
            refine mm_T.call (t := 237) (as := [(.int (I 68 y3.toNatClampNeg)), (.int (I 70 ((y2 + (-1)) - 1).toNatClampNeg)), (.int (I 70 (y2 + (-1)).toNatClampNeg))]) (f' := (231, [some (.ref 62), none, some (.int (y2 + (-1))), some (.int y3)], [(.int ((y2 + (-1)) - 1)), (.ref 70)])) rfl (tX12_done (d + 0) (I 68 y3.toNatClampNeg) (I 70 ((y2 + (-1)) - 1).toNatClampNeg) (I 70 (y2 + (-1)).toNatClampNeg) I J rv sp rr w nw o350 eo350) (fun v h hq => ?_)
            obtain ⟨rfl, rfl⟩ := hq
            by_cases h351 : ((y2 + (-1)) - 1) < 0 ∨ 64 ≤ ((y2 + (-1)) - 1).toNatClampNeg
            · rw [if_pos h351] at e; cases e
            rw [if_neg h351] at e
            refine mm_T.guard (y := ((232, [some (.ref 62), none, some (.int (y2 + (-1))), some (.int y3)], []), (107, (mm_up I 70 ((y2 + (-1)) - 1).toNatClampNeg o350), J, mm_rf rv sp rr w nw))) rfl h351 ?_
            refine mm_T.seg (f' := (90, [some (.ref 62), none, some (.int (y2 + (-1))), some (.int (y3 + 1))], [])) (h' := (107, (mm_up I 70 ((y2 + (-1)) - 1).toNatClampNeg o350), J, mm_rf rv sp rr w nw)) 2 rfl ?_
            refine mm_T.mask [true, false, true, true] ?_
            exact ih (y2 + (-1)) (y3 + 1) (mm_up I 70 ((y2 + (-1)) - 1).toNatClampNeg o350) J rv sp rr w nw out e k
    · rw [if_neg h322] at e
      cases e
      refine mm_T.mask [true, false, false, false] ?_
      exact k
set_option maxRecDepth 100000 in
set_option maxHeartbeats 4000000 in
theorem tX12_hotterOf (d n : Nat) (x1 : Int32) (I : Nat → Nat → Int32) (J : Nat → Nat → Int64) (rv sp rr w nw : Nat) (out : Int32 × (Nat → Nat → Int32)) (e : fX12_hotterOf n x1 I = some out) : mm_T none (d + 2) 241 (mm_ent 241 [(.ref 62), (.int x1)]) (107, I, J, mm_rf rv sp rr w nw) (fun v h => v = some (.int out.1) ∧ h = (107, out.2, J, mm_rf rv sp rr w nw)) := by
  unfold fX12_hotterOf at e
  refine mm_T.seg (f' := (12, [some (.ref 62), some (.int x1), none, none], [(.int (4 + x1)), (.ref 85), (.int 0), (.ref 71)])) (h' := (107, I, J, mm_rf rv sp rr w nw)) 8 rfl ?_
  by_cases h316 : (4 + x1) < 0 ∨ 28 ≤ (4 + x1).toNatClampNeg
  · rw [if_pos h316] at e; cases e
  rw [if_neg h316] at e
  refine mm_T.guard (y := ((13, [some (.ref 62), some (.int x1), none, none], [(.int (I 85 (4 + x1).toNatClampNeg)), (.int 0), (.ref 71)]), (107, I, J, mm_rf rv sp rr w nw))) rfl h316 ?_
  refine mm_T.seg (f' := (24, [some (.ref 62), some (.int x1), none, none], [(.int x1), (.ref 85), (.int 1), (.ref 71)])) (h' := (107, (mm_up I 71 0 (I 85 (4 + x1).toNatClampNeg)), J, mm_rf rv sp rr w nw)) 7 rfl ?_
  by_cases h317 : x1 < 0 ∨ 28 ≤ x1.toNatClampNeg
  · rw [if_pos h317] at e; cases e
  rw [if_neg h317] at e
  refine mm_T.guard (y := ((25, [some (.ref 62), some (.int x1), none, none], [(.int (I 85 x1.toNatClampNeg)), (.int 1), (.ref 71)]), (107, (mm_up I 71 0 (I 85 (4 + x1).toNatClampNeg)), J, mm_rf rv sp rr w nw))) rfl h317 ?_
  refine mm_T.seg (f' := (33, [some (.ref 62), some (.int x1), none, none], [(.int x1), (.ref 62), (.int 2), (.ref 71)])) (h' := (107, (mm_up (mm_up I 71 0 (I 85 (4 + x1).toNatClampNeg)) 71 1 (I 85 x1.toNatClampNeg)), J, mm_rf rv sp rr w nw)) 6 rfl ?_
  obtain ⟨o318, eo318, e⟩ := mm_bind e
  refine mm_T.call (t := 240) (as := [(.ref 62), (.int x1)]) (f' := (36, [some (.ref 62), some (.int x1), none, none], [(.int 2), (.ref 71)])) rfl (tX12_burdenOf (d + 1) n x1 (mm_up (mm_up I 71 0 (I 85 (4 + x1).toNatClampNeg)) 71 1 (I 85 x1.toNatClampNeg)) J rv sp rr w nw o318 eo318) (fun v h hq => ?_)
  obtain ⟨rfl, rfl⟩ := hq
  refine mm_T.seg (f' := (47, [some (.ref 62), some (.int x1), none, none], [(.int x1), (.ref 80), (.int 3), (.ref 71)])) (h' := (107, (mm_up (mm_up (mm_up I 71 0 (I 85 (4 + x1).toNatClampNeg)) 71 1 (I 85 x1.toNatClampNeg)) 71 2 o318), J, mm_rf rv sp rr w nw)) 7 rfl ?_
  by_cases h319 : x1 < 0 ∨ 4 ≤ x1.toNatClampNeg
  · rw [if_pos h319] at e; cases e
  rw [if_neg h319] at e
  refine mm_T.guard (y := ((48, [some (.ref 62), some (.int x1), none, none], [(.int (I 80 x1.toNatClampNeg)), (.int 3), (.ref 71)]), (107, (mm_up (mm_up (mm_up I 71 0 (I 85 (4 + x1).toNatClampNeg)) 71 1 (I 85 x1.toNatClampNeg)) 71 2 o318), J, mm_rf rv sp rr w nw))) rfl h319 ?_
  refine mm_T.seg (f' := (62, [some (.ref 62), some (.int x1), none, none], [(.int (16 + x1)), (.ref 85), (.int 4), (.ref 71)])) (h' := (107, (mm_up (mm_up (mm_up (mm_up I 71 0 (I 85 (4 + x1).toNatClampNeg)) 71 1 (I 85 x1.toNatClampNeg)) 71 2 o318) 71 3 (I 80 x1.toNatClampNeg)), J, mm_rf rv sp rr w nw)) 9 rfl ?_
  by_cases h320 : (16 + x1) < 0 ∨ 28 ≤ (16 + x1).toNatClampNeg
  · rw [if_pos h320] at e; cases e
  rw [if_neg h320] at e
  refine mm_T.guard (y := ((63, [some (.ref 62), some (.int x1), none, none], [(.int (I 85 (16 + x1).toNatClampNeg)), (.int 4), (.ref 71)]), (107, (mm_up (mm_up (mm_up (mm_up I 71 0 (I 85 (4 + x1).toNatClampNeg)) 71 1 (I 85 x1.toNatClampNeg)) 71 2 o318) 71 3 (I 80 x1.toNatClampNeg)), J, mm_rf rv sp rr w nw))) rfl h320 ?_
  refine mm_T.seg (f' := (77, [some (.ref 62), some (.int x1), none, none], [(.int (8 + x1)), (.ref 85), (.int 5), (.ref 71)])) (h' := (107, (mm_up (mm_up (mm_up (mm_up (mm_up I 71 0 (I 85 (4 + x1).toNatClampNeg)) 71 1 (I 85 x1.toNatClampNeg)) 71 2 o318) 71 3 (I 80 x1.toNatClampNeg)) 71 4 (I 85 (16 + x1).toNatClampNeg)), J, mm_rf rv sp rr w nw)) 9 rfl ?_
  by_cases h321 : (8 + x1) < 0 ∨ 28 ≤ (8 + x1).toNatClampNeg
  · rw [if_pos h321] at e; cases e
  rw [if_neg h321] at e
  refine mm_T.guard (y := ((78, [some (.ref 62), some (.int x1), none, none], [(.int (I 85 (8 + x1).toNatClampNeg)), (.int 5), (.ref 71)]), (107, (mm_up (mm_up (mm_up (mm_up (mm_up I 71 0 (I 85 (4 + x1).toNatClampNeg)) 71 1 (I 85 x1.toNatClampNeg)) 71 2 o318) 71 3 (I 80 x1.toNatClampNeg)) 71 4 (I 85 (16 + x1).toNatClampNeg)), J, mm_rf rv sp rr w nw))) rfl h321 ?_
  refine mm_T.seg (f' := (90, [some (.ref 62), some (.int x1), some (.int 0), some (.int 0)], [])) (h' := (107, (mm_up (mm_up (mm_up (mm_up (mm_up (mm_up (mm_up I 71 0 (I 85 (4 + x1).toNatClampNeg)) 71 1 (I 85 x1.toNatClampNeg)) 71 2 o318) 71 3 (I 80 x1.toNatClampNeg)) 71 4 (I 85 (16 + x1).toNatClampNeg)) 71 5 (I 85 (8 + x1).toNatClampNeg)) 70 0 1), J, mm_rf rv sp rr w nw)) 10 rfl ?_
  refine mm_T.mask [true, false, true, true] ?_
  obtain ⟨o352, eo352, e⟩ := mm_bind e
  refine tlX12_hotterOf_L90 d _ n 0 0 (mm_up (mm_up (mm_up (mm_up (mm_up (mm_up (mm_up I 71 0 (I 85 (4 + x1).toNatClampNeg)) 71 1 (I 85 x1.toNatClampNeg)) 71 2 o318) 71 3 (I 80 x1.toNatClampNeg)) 71 4 (I 85 (16 + x1).toNatClampNeg)) 71 5 (I 85 (8 + x1).toNatClampNeg)) 70 0 1) J rv sp rr w nw o352 eo352 ?_
  refine mm_T.seg (f' := (246, [some (.ref 62), none, none, none], [(.int 99), (.int (o352 70 0))])) (h' := (107, o352, J, mm_rf rv sp rr w nw)) 5 rfl ?_
  refine mm_T.call (t := 238) (as := [(.int (o352 70 0)), (.int 99)]) (f' := (249, [some (.ref 62), none, none, none], [])) rfl (tX12_within (d + 1) (o352 70 0) 99 o352 J rv sp rr w nw _ rfl) (fun v h hq => ?_)
  obtain ⟨rfl, rfl⟩ := hq
  cases e
  exact mm_T.ret rfl ⟨rfl, rfl⟩
def fX12_readWater (n : Nat) (I : Nat → Nat → Int32) (J : Nat → Nat → Int64) : Option ((Nat → Nat → Int32) × (Nat → Nat → Int64)) := (fX12_token n I J).bind fun o353 => (fX12_toldNumber n 1 8 o353.1 o353.2).bind fun o354 => (fX12_told n 25209 1 6 (mm_up o354.2.1 62 38 o354.1) o354.2.2).bind fun o355 => some ((mm_up o355.2.1 62 39 o355.1), o355.2.2)
set_option maxRecDepth 100000 in
set_option maxHeartbeats 4000000 in
theorem tX12_readWater (d n : Nat) (I : Nat → Nat → Int32) (J : Nat → Nat → Int64) (rv sp rr w nw : Nat) (out : (Nat → Nat → Int32) × (Nat → Nat → Int64)) (e : fX12_readWater n I J = some out) : mm_T none (d + 4) 242 (mm_ent 242 [(.ref 62)]) (107, I, J, mm_rf rv sp rr w nw) (fun v h => v = none ∧ h = (107, out.1, out.2, mm_rf rv sp rr w nw)) := by
  unfold fX12_readWater at e
  refine mm_T.seg (f' := (1, [some (.ref 62)], [(.ref 62)])) (h' := (107, I, J, mm_rf rv sp rr w nw)) 1 rfl ?_
  obtain ⟨o353, eo353, e⟩ := mm_bind e
  refine mm_T.call (t := 214) (as := [(.ref 62)]) (f' := (4, [some (.ref 62)], [])) rfl (tX12_token (d + 2) n I J rv sp rr w nw o353 eo353) (fun v h hq => ?_)
  obtain ⟨rfl, rfl⟩ := hq
  refine mm_T.seg (f' := (9, [some (.ref 62)], [(.int 8), (.int 1), (.ref 62), (.ref 62)])) (h' := (107, o353.1, o353.2, mm_rf rv sp rr w nw)) 4 rfl ?_
  obtain ⟨o354, eo354, e⟩ := mm_bind e
  refine mm_T.call (t := 220) (as := [(.ref 62), (.int 1), (.int 8)]) (f' := (12, [some (.ref 62)], [(.ref 62)])) rfl (tX12_toldNumber (d + 1) n 1 8 o353.1 o353.2 rv sp rr w nw o354 eo354) (fun v h hq => ?_)
  obtain ⟨rfl, rfl⟩ := hq
  refine mm_T.seg (f' := (23, [some (.ref 62)], [(.int 6), (.int 1), (.long 25209), (.ref 62), (.ref 62)])) (h' := (107, (mm_up o354.2.1 62 38 o354.1), o354.2.2, mm_rf rv sp rr w nw)) 6 rfl ?_
  obtain ⟨o355, eo355, e⟩ := mm_bind e
  refine mm_T.call (t := 221) (as := [(.ref 62), (.long 25209), (.int 1), (.int 6)]) (f' := (26, [some (.ref 62)], [(.ref 62)])) rfl (tX12_told (d + 0) n 25209 1 6 (mm_up o354.2.1 62 38 o354.1) o354.2.2 rv sp rr w nw o355 eo355) (fun v h hq => ?_)
  obtain ⟨rfl, rfl⟩ := hq
  refine mm_T.seg (f' := (29, [some (.ref 62)], [])) (h' := (107, (mm_up o355.2.1 62 39 o355.1), o355.2.2, mm_rf rv sp rr w nw)) 1 rfl ?_
  cases e
  exact mm_T.ret rfl ⟨rfl, rfl⟩
def fX12_readCell_72_J64 (n : Nat) (y2 : Int32) (y3 : Int32) (y4 : Int32) (I : Nat → Nat → Int32) (J : Nat → Nat → Int64) : Option (Int32 × (Nat → Nat → Int32) × (Nat → Nat → Int64)) := (fX12_toldNumber n y2 y3 I J).bind fun o363 => some (((8 * o363.1) + y4), o363.2.1, o363.2.2)
def fX12_readCell_72 (n : Nat) (x2 : Int32) (x3 : Int32) (I : Nat → Nat → Int32) (J : Nat → Nat → Int64) : Option (Int32 × (Nat → Nat → Int32) × (Nat → Nat → Int64)) := (fX12_toldNumber n 0 ((I 62 38) - 1) I J).bind fun o359 => (if (o359.2.1 62 2) = 0 then (if (o359.2.1 62 6) = 2 then (if (o359.2.1 62 8) < x2 then (fX12_readCell_72_J64 n x2 x3 o359.1 o359.2.1 o359.2.2) else (if x3 < (o359.2.1 62 8) then (fX12_readCell_72_J64 n x2 x3 o359.1 o359.2.1 o359.2.2) else (if ((8 * (o359.2.1 62 8)) + o359.1) < 0 ∨ 56 ≤ ((8 * (o359.2.1 62 8)) + o359.1).toNatClampNeg then none else (if (o359.2.1 72 ((8 * (o359.2.1 62 8)) + o359.1).toNatClampNeg) < 0 then (fX12_readCell_72_J64 n x2 x3 o359.1 o359.2.1 o359.2.2) else (fX12_readCell_72_J64 n x2 x3 o359.1 (fX12_wrong 3 o359.2.1) o359.2.2))))) else (fX12_readCell_72_J64 n x2 x3 o359.1 o359.2.1 o359.2.2)) else (fX12_readCell_72_J64 n x2 x3 o359.1 o359.2.1 o359.2.2))
set_option maxRecDepth 100000 in
set_option maxHeartbeats 4000000 in
theorem tbX12_readCell_72_J64 (d n : Nat) (y2 : Int32) (y3 : Int32) (y4 : Int32) (I : Nat → Nat → Int32) (J : Nat → Nat → Int64) (rv sp rr w nw : Nat) (out : Int32 × (Nat → Nat → Int32) × (Nat → Nat → Int64)) (e : fX12_readCell_72_J64 n y2 y3 y4 I J = some out) : mm_T none (d + 3) 243 (64, [some (.ref 62), none, some (.int y2), some (.int y3), some (.int y4)], []) (107, I, J, mm_rf rv sp rr w nw) (fun v h => v = some (.int out.1) ∧ h = (107, out.2.1, out.2.2, mm_rf rv sp rr w nw)) := by
  unfold fX12_readCell_72_J64 at e
  refine mm_T.seg (f' := (69, [some (.ref 62), none, some (.int y2), some (.int y3), some (.int y4)], [(.int y3), (.int y2), (.ref 62), (.int 8)])) (h' := (107, I, J, mm_rf rv sp rr w nw)) 4 rfl ?_
  obtain ⟨o363, eo363, e⟩ := mm_bind e
  refine mm_T.call (t := 220) (as := [(.ref 62), (.int y2), (.int y3)]) (f' := (72, [some (.ref 62), none, some (.int y2), some (.int y3), some (.int y4)], [(.int 8)])) rfl (tX12_toldNumber (d + 0) n y2 y3 I J rv sp rr w nw o363 eo363) (fun v h hq => ?_)
  obtain ⟨rfl, rfl⟩ := hq
  refine mm_T.seg (f' := (76, [some (.ref 62), none, some (.int y2), some (.int y3), some (.int y4)], [(.int ((8 * o363.1) + y4))])) (h' := (107, o363.2.1, o363.2.2, mm_rf rv sp rr w nw)) 3 rfl ?_
  cases e
  exact mm_T.ret rfl ⟨rfl, rfl⟩
set_option maxRecDepth 100000 in
set_option maxHeartbeats 4000000 in
theorem tX12_readCell_72 (d n : Nat) (x2 : Int32) (x3 : Int32) (I : Nat → Nat → Int32) (J : Nat → Nat → Int64) (rv sp rr w nw : Nat) (out : Int32 × (Nat → Nat → Int32) × (Nat → Nat → Int64)) (e : fX12_readCell_72 n x2 x3 I J = some out) : mm_T none (d + 3) 243 (mm_ent 243 [(.ref 62), (.ref 72), (.int x2), (.int x3)]) (107, I, J, mm_rf rv sp rr w nw) (fun v h => v = some (.int out.1) ∧ h = (107, out.2.1, out.2.2, mm_rf rv sp rr w nw)) := by
  unfold fX12_readCell_72 at e
  refine mm_T.seg (f' := (8, [some (.ref 62), some (.ref 72), some (.int x2), some (.int x3), none], [(.int ((I 62 38) - 1)), (.int 0), (.ref 62)])) (h' := (107, I, J, mm_rf rv sp rr w nw)) 6 rfl ?_
  obtain ⟨o359, eo359, e⟩ := mm_bind e
  refine mm_T.call (t := 220) (as := [(.ref 62), (.int 0), (.int ((I 62 38) - 1))]) (f' := (11, [some (.ref 62), some (.ref 72), some (.int x2), some (.int x3), none], [])) rfl (tX12_toldNumber (d + 0) n 0 ((I 62 38) - 1) I J rv sp rr w nw o359 eo359) (fun v h hq => ?_)
  obtain ⟨rfl, rfl⟩ := hq
  refine mm_T.seg (f' := (17, [some (.ref 62), some (.ref 72), some (.int x2), some (.int x3), some (.int o359.1)], [(.int (o359.2.1 62 2))])) (h' := (107, o359.2.1, o359.2.2, mm_rf rv sp rr w nw)) 3 rfl ?_
  refine mm_T.br (c := (o359.2.1 62 2) = 0) (a := ((20, [some (.ref 62), some (.ref 72), some (.int x2), some (.int x3), some (.int o359.1)], []), (107, o359.2.1, o359.2.2, mm_rf rv sp rr w nw))) (b := ((64, [some (.ref 62), some (.ref 72), some (.int x2), some (.int x3), some (.int o359.1)], []), (107, o359.2.1, o359.2.2, mm_rf rv sp rr w nw))) rfl (fun h360 => ?_) (fun h360 => ?_)
  · rw [if_pos h360] at e
    refine mm_T.seg (f' := (25, [some (.ref 62), some (.ref 72), some (.int x2), some (.int x3), some (.int o359.1)], [(.int 2), (.int (o359.2.1 62 6))])) (h' := (107, o359.2.1, o359.2.2, mm_rf rv sp rr w nw)) 3 rfl ?_
    refine mm_T.br (c := (o359.2.1 62 6) = 2) (a := ((28, [some (.ref 62), some (.ref 72), some (.int x2), some (.int x3), some (.int o359.1)], []), (107, o359.2.1, o359.2.2, mm_rf rv sp rr w nw))) (b := ((64, [some (.ref 62), some (.ref 72), some (.int x2), some (.int x3), some (.int o359.1)], []), (107, o359.2.1, o359.2.2, mm_rf rv sp rr w nw))) rfl (fun h361 => ?_) (fun h361 => ?_)
    · rw [if_pos h361] at e
      refine mm_T.seg (f' := (33, [some (.ref 62), some (.ref 72), some (.int x2), some (.int x3), some (.int o359.1)], [(.int x2), (.int (o359.2.1 62 8))])) (h' := (107, o359.2.1, o359.2.2, mm_rf rv sp rr w nw)) 3 rfl ?_
      refine mm_T.br (c := (o359.2.1 62 8) < x2) (a := ((64, [some (.ref 62), some (.ref 72), some (.int x2), some (.int x3), some (.int o359.1)], []), (107, o359.2.1, o359.2.2, mm_rf rv sp rr w nw))) (b := ((36, [some (.ref 62), some (.ref 72), some (.int x2), some (.int x3), some (.int o359.1)], []), (107, o359.2.1, o359.2.2, mm_rf rv sp rr w nw))) rfl (fun h362 => ?_) (fun h362 => ?_)
      · rw [if_pos h362] at e
        refine mm_T.mask [true, false, true, true, true] ?_
        exact tbX12_readCell_72_J64 d n x2 x3 o359.1 o359.2.1 o359.2.2 rv sp rr w nw out e
      · rw [if_neg h362] at e
        refine mm_T.seg (f' := (41, [some (.ref 62), some (.ref 72), some (.int x2), some (.int x3), some (.int o359.1)], [(.int x3), (.int (o359.2.1 62 8))])) (h' := (107, o359.2.1, o359.2.2, mm_rf rv sp rr w nw)) 3 rfl ?_
        refine mm_T.br (c := x3 < (o359.2.1 62 8)) (a := ((64, [some (.ref 62), some (.ref 72), some (.int x2), some (.int x3), some (.int o359.1)], []), (107, o359.2.1, o359.2.2, mm_rf rv sp rr w nw))) (b := ((44, [some (.ref 62), some (.ref 72), some (.int x2), some (.int x3), some (.int o359.1)], []), (107, o359.2.1, o359.2.2, mm_rf rv sp rr w nw))) rfl (fun h364 => ?_) (fun h364 => ?_)
        · rw [if_pos h364] at e
          refine mm_T.mask [true, false, true, true, true] ?_
          exact tbX12_readCell_72_J64 d n x2 x3 o359.1 o359.2.1 o359.2.2 rv sp rr w nw out e
        · rw [if_neg h364] at e
          refine mm_T.seg (f' := (55, [some (.ref 62), some (.ref 72), some (.int x2), some (.int x3), some (.int o359.1)], [(.int ((8 * (o359.2.1 62 8)) + o359.1)), (.ref 72)])) (h' := (107, o359.2.1, o359.2.2, mm_rf rv sp rr w nw)) 7 rfl ?_
          by_cases h365 : ((8 * (o359.2.1 62 8)) + o359.1) < 0 ∨ 56 ≤ ((8 * (o359.2.1 62 8)) + o359.1).toNatClampNeg
          · rw [if_pos h365] at e; cases e
          rw [if_neg h365] at e
          refine mm_T.guard (y := ((56, [some (.ref 62), some (.ref 72), some (.int x2), some (.int x3), some (.int o359.1)], [(.int (o359.2.1 72 ((8 * (o359.2.1 62 8)) + o359.1).toNatClampNeg))]), (107, o359.2.1, o359.2.2, mm_rf rv sp rr w nw))) rfl h365 ?_
          refine mm_T.br (c := (o359.2.1 72 ((8 * (o359.2.1 62 8)) + o359.1).toNatClampNeg) < 0) (a := ((64, [some (.ref 62), some (.ref 72), some (.int x2), some (.int x3), some (.int o359.1)], []), (107, o359.2.1, o359.2.2, mm_rf rv sp rr w nw))) (b := ((59, [some (.ref 62), some (.ref 72), some (.int x2), some (.int x3), some (.int o359.1)], []), (107, o359.2.1, o359.2.2, mm_rf rv sp rr w nw))) rfl (fun h366 => ?_) (fun h366 => ?_)
          · rw [if_pos h366] at e
            refine mm_T.mask [true, false, true, true, true] ?_
            exact tbX12_readCell_72_J64 d n x2 x3 o359.1 o359.2.1 o359.2.2 rv sp rr w nw out e
          · rw [if_neg h366] at e
            refine mm_T.seg (f' := (61, [some (.ref 62), some (.ref 72), some (.int x2), some (.int x3), some (.int o359.1)], [(.int 3), (.ref 62)])) (h' := (107, o359.2.1, o359.2.2, mm_rf rv sp rr w nw)) 2 rfl ?_
            refine mm_T.call (t := 215) (as := [(.ref 62), (.int 3)]) (f' := (64, [some (.ref 62), some (.ref 72), some (.int x2), some (.int x3), some (.int o359.1)], [])) rfl (tX12_wrong (d + 2) 3 o359.2.1 o359.2.2 rv sp rr w nw _ rfl) (fun v h hq => ?_)
            obtain ⟨rfl, rfl⟩ := hq
            refine mm_T.mask [true, false, true, true, true] ?_
            exact tbX12_readCell_72_J64 d n x2 x3 o359.1 (fX12_wrong 3 o359.2.1) o359.2.2 rv sp rr w nw out e
    · rw [if_neg h361] at e
      refine mm_T.mask [true, false, true, true, true] ?_
      exact tbX12_readCell_72_J64 d n x2 x3 o359.1 o359.2.1 o359.2.2 rv sp rr w nw out e
  · rw [if_neg h360] at e
    refine mm_T.mask [true, false, true, true, true] ?_
    exact tbX12_readCell_72_J64 d n x2 x3 o359.1 o359.2.1 o359.2.2 rv sp rr w nw out e
def fX12_readCurrent (n : Nat) (I : Nat → Nat → Int32) (J : Nat → Nat → Int64) : Option ((Nat → Nat → Int32) × (Nat → Nat → Int64)) := (fX12_token n I J).bind fun o356 => (fX12_toldNumber n 0 7 o356.1 o356.2).bind fun o357 => (fX12_want n 24948 o357.2.1 o357.2.2).bind fun o358 => (fX12_readCell_72 n 0 ((o358.1 62 39) - 1) o358.1 o358.2).bind fun o367 => (if 0 < (o367.2.1 62 2) then some (o367.2.1, o367.2.2) else (if o367.1 < 0 ∨ 56 ≤ o367.1.toNatClampNeg then none else some ((mm_up (mm_up o367.2.1 72 o367.1.toNatClampNeg o357.1) 62 40 ((o367.2.1 62 40) + 1)), o367.2.2)))
set_option maxRecDepth 100000 in
set_option maxHeartbeats 4000000 in
theorem tX12_readCurrent (d n : Nat) (I : Nat → Nat → Int32) (J : Nat → Nat → Int64) (rv sp rr w nw : Nat) (out : (Nat → Nat → Int32) × (Nat → Nat → Int64)) (e : fX12_readCurrent n I J = some out) : mm_T none (d + 4) 244 (mm_ent 244 [(.ref 62)]) (107, I, J, mm_rf rv sp rr w nw) (fun v h => v = none ∧ h = (107, out.1, out.2, mm_rf rv sp rr w nw)) := by
  unfold fX12_readCurrent at e
  refine mm_T.seg (f' := (1, [some (.ref 62), none, none], [(.ref 62)])) (h' := (107, I, J, mm_rf rv sp rr w nw)) 1 rfl ?_
  obtain ⟨o356, eo356, e⟩ := mm_bind e
  refine mm_T.call (t := 214) (as := [(.ref 62)]) (f' := (4, [some (.ref 62), none, none], [])) rfl (tX12_token (d + 2) n I J rv sp rr w nw o356 eo356) (fun v h hq => ?_)
  obtain ⟨rfl, rfl⟩ := hq
  refine mm_T.seg (f' := (8, [some (.ref 62), none, none], [(.int 7), (.int 0), (.ref 62)])) (h' := (107, o356.1, o356.2, mm_rf rv sp rr w nw)) 3 rfl ?_
  obtain ⟨o357, eo357, e⟩ := mm_bind e
  refine mm_T.call (t := 220) (as := [(.ref 62), (.int 0), (.int 7)]) (f' := (11, [some (.ref 62), none, none], [])) rfl (tX12_toldNumber (d + 1) n 0 7 o356.1 o356.2 rv sp rr w nw o357 eo357) (fun v h hq => ?_)
  obtain ⟨rfl, rfl⟩ := hq
  refine mm_T.seg (f' := (16, [some (.ref 62), some (.int o357.1), none], [(.long 24948), (.ref 62)])) (h' := (107, o357.2.1, o357.2.2, mm_rf rv sp rr w nw)) 3 rfl ?_
  obtain ⟨o358, eo358, e⟩ := mm_bind e
  refine mm_T.call (t := 219) (as := [(.ref 62), (.long 24948)]) (f' := (19, [some (.ref 62), some (.int o357.1), none], [])) rfl (tX12_want (d + 1) n 24948 o357.2.1 o357.2.2 rv sp rr w nw o358 eo358) (fun v h hq => ?_)
  obtain ⟨rfl, rfl⟩ := hq
  refine mm_T.seg (f' := (31, [some (.ref 62), some (.int o357.1), none], [(.int ((o358.1 62 39) - 1)), (.int 0), (.ref 72), (.ref 62)])) (h' := (107, o358.1, o358.2, mm_rf rv sp rr w nw)) 8 rfl ?_
  obtain ⟨o367, eo367, e⟩ := mm_bind e
  refine mm_T.call (t := 243) (as := [(.ref 62), (.ref 72), (.int 0), (.int ((o358.1 62 39) - 1))]) (f' := (34, [some (.ref 62), some (.int o357.1), none], [])) rfl (tX12_readCell_72 (d + 0) n 0 ((o358.1 62 39) - 1) o358.1 o358.2 rv sp rr w nw o367 eo367) (fun v h hq => ?_)
  obtain ⟨rfl, rfl⟩ := hq
  refine mm_T.seg (f' := (39, [some (.ref 62), some (.int o357.1), some (.int o367.1)], [(.int (o367.2.1 62 2))])) (h' := (107, o367.2.1, o367.2.2, mm_rf rv sp rr w nw)) 3 rfl ?_
  refine mm_T.br (c := 0 < (o367.2.1 62 2)) (a := ((42, [some (.ref 62), some (.int o357.1), some (.int o367.1)], []), (107, o367.2.1, o367.2.2, mm_rf rv sp rr w nw))) (b := ((43, [some (.ref 62), some (.int o357.1), some (.int o367.1)], []), (107, o367.2.1, o367.2.2, mm_rf rv sp rr w nw))) rfl (fun h368 => ?_) (fun h368 => ?_)
  · rw [if_pos h368] at e
    cases e
    exact mm_T.ret rfl ⟨rfl, rfl⟩
  · rw [if_neg h368] at e
    refine mm_T.seg (f' := (49, [some (.ref 62), some (.int o357.1), some (.int o367.1)], [(.int o357.1), (.int o367.1), (.ref 72)])) (h' := (107, o367.2.1, o367.2.2, mm_rf rv sp rr w nw)) 4 rfl ?_
    by_cases h369 : o367.1 < 0 ∨ 56 ≤ o367.1.toNatClampNeg
    · rw [if_pos h369] at e; cases e
    rw [if_neg h369] at e
    refine mm_T.guard (y := ((50, [some (.ref 62), some (.int o357.1), some (.int o367.1)], []), (107, (mm_up o367.2.1 72 o367.1.toNatClampNeg o357.1), o367.2.2, mm_rf rv sp rr w nw))) rfl h369 ?_
    refine mm_T.seg (f' := (60, [some (.ref 62), some (.int o357.1), some (.int o367.1)], [])) (h' := (107, (mm_up (mm_up o367.2.1 72 o367.1.toNatClampNeg o357.1) 62 40 ((o367.2.1 62 40) + 1)), o367.2.2, mm_rf rv sp rr w nw)) 6 rfl ?_
    cases e
    exact mm_T.ret rfl ⟨rfl, rfl⟩
def fX12_readCell_73_J64 (n : Nat) (y2 : Int32) (y3 : Int32) (y4 : Int32) (I : Nat → Nat → Int32) (J : Nat → Nat → Int64) : Option (Int32 × (Nat → Nat → Int32) × (Nat → Nat → Int64)) := (fX12_toldNumber n y2 y3 I J).bind fun o375 => some (((8 * o375.1) + y4), o375.2.1, o375.2.2)
def fX12_readCell_73 (n : Nat) (x2 : Int32) (x3 : Int32) (I : Nat → Nat → Int32) (J : Nat → Nat → Int64) : Option (Int32 × (Nat → Nat → Int32) × (Nat → Nat → Int64)) := (fX12_toldNumber n 0 ((I 62 38) - 1) I J).bind fun o371 => (if (o371.2.1 62 2) = 0 then (if (o371.2.1 62 6) = 2 then (if (o371.2.1 62 8) < x2 then (fX12_readCell_73_J64 n x2 x3 o371.1 o371.2.1 o371.2.2) else (if x3 < (o371.2.1 62 8) then (fX12_readCell_73_J64 n x2 x3 o371.1 o371.2.1 o371.2.2) else (if ((8 * (o371.2.1 62 8)) + o371.1) < 0 ∨ 56 ≤ ((8 * (o371.2.1 62 8)) + o371.1).toNatClampNeg then none else (if (o371.2.1 73 ((8 * (o371.2.1 62 8)) + o371.1).toNatClampNeg) < 0 then (fX12_readCell_73_J64 n x2 x3 o371.1 o371.2.1 o371.2.2) else (fX12_readCell_73_J64 n x2 x3 o371.1 (fX12_wrong 3 o371.2.1) o371.2.2))))) else (fX12_readCell_73_J64 n x2 x3 o371.1 o371.2.1 o371.2.2)) else (fX12_readCell_73_J64 n x2 x3 o371.1 o371.2.1 o371.2.2))
set_option maxRecDepth 100000 in
set_option maxHeartbeats 4000000 in
theorem tbX12_readCell_73_J64 (d n : Nat) (y2 : Int32) (y3 : Int32) (y4 : Int32) (I : Nat → Nat → Int32) (J : Nat → Nat → Int64) (rv sp rr w nw : Nat) (out : Int32 × (Nat → Nat → Int32) × (Nat → Nat → Int64)) (e : fX12_readCell_73_J64 n y2 y3 y4 I J = some out) : mm_T none (d + 3) 243 (64, [some (.ref 62), none, some (.int y2), some (.int y3), some (.int y4)], []) (107, I, J, mm_rf rv sp rr w nw) (fun v h => v = some (.int out.1) ∧ h = (107, out.2.1, out.2.2, mm_rf rv sp rr w nw)) := by
  unfold fX12_readCell_73_J64 at e
  refine mm_T.seg (f' := (69, [some (.ref 62), none, some (.int y2), some (.int y3), some (.int y4)], [(.int y3), (.int y2), (.ref 62), (.int 8)])) (h' := (107, I, J, mm_rf rv sp rr w nw)) 4 rfl ?_
  obtain ⟨o375, eo375, e⟩ := mm_bind e
  refine mm_T.call (t := 220) (as := [(.ref 62), (.int y2), (.int y3)]) (f' := (72, [some (.ref 62), none, some (.int y2), some (.int y3), some (.int y4)], [(.int 8)])) rfl (tX12_toldNumber (d + 0) n y2 y3 I J rv sp rr w nw o375 eo375) (fun v h hq => ?_)
  obtain ⟨rfl, rfl⟩ := hq
  refine mm_T.seg (f' := (76, [some (.ref 62), none, some (.int y2), some (.int y3), some (.int y4)], [(.int ((8 * o375.1) + y4))])) (h' := (107, o375.2.1, o375.2.2, mm_rf rv sp rr w nw)) 3 rfl ?_
  cases e
  exact mm_T.ret rfl ⟨rfl, rfl⟩
set_option maxRecDepth 100000 in
set_option maxHeartbeats 4000000 in
theorem tX12_readCell_73 (d n : Nat) (x2 : Int32) (x3 : Int32) (I : Nat → Nat → Int32) (J : Nat → Nat → Int64) (rv sp rr w nw : Nat) (out : Int32 × (Nat → Nat → Int32) × (Nat → Nat → Int64)) (e : fX12_readCell_73 n x2 x3 I J = some out) : mm_T none (d + 3) 243 (mm_ent 243 [(.ref 62), (.ref 73), (.int x2), (.int x3)]) (107, I, J, mm_rf rv sp rr w nw) (fun v h => v = some (.int out.1) ∧ h = (107, out.2.1, out.2.2, mm_rf rv sp rr w nw)) := by
  unfold fX12_readCell_73 at e
  refine mm_T.seg (f' := (8, [some (.ref 62), some (.ref 73), some (.int x2), some (.int x3), none], [(.int ((I 62 38) - 1)), (.int 0), (.ref 62)])) (h' := (107, I, J, mm_rf rv sp rr w nw)) 6 rfl ?_
  obtain ⟨o371, eo371, e⟩ := mm_bind e
  refine mm_T.call (t := 220) (as := [(.ref 62), (.int 0), (.int ((I 62 38) - 1))]) (f' := (11, [some (.ref 62), some (.ref 73), some (.int x2), some (.int x3), none], [])) rfl (tX12_toldNumber (d + 0) n 0 ((I 62 38) - 1) I J rv sp rr w nw o371 eo371) (fun v h hq => ?_)
  obtain ⟨rfl, rfl⟩ := hq
  refine mm_T.seg (f' := (17, [some (.ref 62), some (.ref 73), some (.int x2), some (.int x3), some (.int o371.1)], [(.int (o371.2.1 62 2))])) (h' := (107, o371.2.1, o371.2.2, mm_rf rv sp rr w nw)) 3 rfl ?_
  refine mm_T.br (c := (o371.2.1 62 2) = 0) (a := ((20, [some (.ref 62), some (.ref 73), some (.int x2), some (.int x3), some (.int o371.1)], []), (107, o371.2.1, o371.2.2, mm_rf rv sp rr w nw))) (b := ((64, [some (.ref 62), some (.ref 73), some (.int x2), some (.int x3), some (.int o371.1)], []), (107, o371.2.1, o371.2.2, mm_rf rv sp rr w nw))) rfl (fun h372 => ?_) (fun h372 => ?_)
  · rw [if_pos h372] at e
    refine mm_T.seg (f' := (25, [some (.ref 62), some (.ref 73), some (.int x2), some (.int x3), some (.int o371.1)], [(.int 2), (.int (o371.2.1 62 6))])) (h' := (107, o371.2.1, o371.2.2, mm_rf rv sp rr w nw)) 3 rfl ?_
    refine mm_T.br (c := (o371.2.1 62 6) = 2) (a := ((28, [some (.ref 62), some (.ref 73), some (.int x2), some (.int x3), some (.int o371.1)], []), (107, o371.2.1, o371.2.2, mm_rf rv sp rr w nw))) (b := ((64, [some (.ref 62), some (.ref 73), some (.int x2), some (.int x3), some (.int o371.1)], []), (107, o371.2.1, o371.2.2, mm_rf rv sp rr w nw))) rfl (fun h373 => ?_) (fun h373 => ?_)
    · rw [if_pos h373] at e
      refine mm_T.seg (f' := (33, [some (.ref 62), some (.ref 73), some (.int x2), some (.int x3), some (.int o371.1)], [(.int x2), (.int (o371.2.1 62 8))])) (h' := (107, o371.2.1, o371.2.2, mm_rf rv sp rr w nw)) 3 rfl ?_
      refine mm_T.br (c := (o371.2.1 62 8) < x2) (a := ((64, [some (.ref 62), some (.ref 73), some (.int x2), some (.int x3), some (.int o371.1)], []), (107, o371.2.1, o371.2.2, mm_rf rv sp rr w nw))) (b := ((36, [some (.ref 62), some (.ref 73), some (.int x2), some (.int x3), some (.int o371.1)], []), (107, o371.2.1, o371.2.2, mm_rf rv sp rr w nw))) rfl (fun h374 => ?_) (fun h374 => ?_)
      · rw [if_pos h374] at e
        refine mm_T.mask [true, false, true, true, true] ?_
        exact tbX12_readCell_73_J64 d n x2 x3 o371.1 o371.2.1 o371.2.2 rv sp rr w nw out e
      · rw [if_neg h374] at e
        refine mm_T.seg (f' := (41, [some (.ref 62), some (.ref 73), some (.int x2), some (.int x3), some (.int o371.1)], [(.int x3), (.int (o371.2.1 62 8))])) (h' := (107, o371.2.1, o371.2.2, mm_rf rv sp rr w nw)) 3 rfl ?_
        refine mm_T.br (c := x3 < (o371.2.1 62 8)) (a := ((64, [some (.ref 62), some (.ref 73), some (.int x2), some (.int x3), some (.int o371.1)], []), (107, o371.2.1, o371.2.2, mm_rf rv sp rr w nw))) (b := ((44, [some (.ref 62), some (.ref 73), some (.int x2), some (.int x3), some (.int o371.1)], []), (107, o371.2.1, o371.2.2, mm_rf rv sp rr w nw))) rfl (fun h376 => ?_) (fun h376 => ?_)
        · rw [if_pos h376] at e
          refine mm_T.mask [true, false, true, true, true] ?_
          exact tbX12_readCell_73_J64 d n x2 x3 o371.1 o371.2.1 o371.2.2 rv sp rr w nw out e
        · rw [if_neg h376] at e
          refine mm_T.seg (f' := (55, [some (.ref 62), some (.ref 73), some (.int x2), some (.int x3), some (.int o371.1)], [(.int ((8 * (o371.2.1 62 8)) + o371.1)), (.ref 73)])) (h' := (107, o371.2.1, o371.2.2, mm_rf rv sp rr w nw)) 7 rfl ?_
          by_cases h377 : ((8 * (o371.2.1 62 8)) + o371.1) < 0 ∨ 56 ≤ ((8 * (o371.2.1 62 8)) + o371.1).toNatClampNeg
          · rw [if_pos h377] at e; cases e
          rw [if_neg h377] at e
          refine mm_T.guard (y := ((56, [some (.ref 62), some (.ref 73), some (.int x2), some (.int x3), some (.int o371.1)], [(.int (o371.2.1 73 ((8 * (o371.2.1 62 8)) + o371.1).toNatClampNeg))]), (107, o371.2.1, o371.2.2, mm_rf rv sp rr w nw))) rfl h377 ?_
          refine mm_T.br (c := (o371.2.1 73 ((8 * (o371.2.1 62 8)) + o371.1).toNatClampNeg) < 0) (a := ((64, [some (.ref 62), some (.ref 73), some (.int x2), some (.int x3), some (.int o371.1)], []), (107, o371.2.1, o371.2.2, mm_rf rv sp rr w nw))) (b := ((59, [some (.ref 62), some (.ref 73), some (.int x2), some (.int x3), some (.int o371.1)], []), (107, o371.2.1, o371.2.2, mm_rf rv sp rr w nw))) rfl (fun h378 => ?_) (fun h378 => ?_)
          · rw [if_pos h378] at e
            refine mm_T.mask [true, false, true, true, true] ?_
            exact tbX12_readCell_73_J64 d n x2 x3 o371.1 o371.2.1 o371.2.2 rv sp rr w nw out e
          · rw [if_neg h378] at e
            refine mm_T.seg (f' := (61, [some (.ref 62), some (.ref 73), some (.int x2), some (.int x3), some (.int o371.1)], [(.int 3), (.ref 62)])) (h' := (107, o371.2.1, o371.2.2, mm_rf rv sp rr w nw)) 2 rfl ?_
            refine mm_T.call (t := 215) (as := [(.ref 62), (.int 3)]) (f' := (64, [some (.ref 62), some (.ref 73), some (.int x2), some (.int x3), some (.int o371.1)], [])) rfl (tX12_wrong (d + 2) 3 o371.2.1 o371.2.2 rv sp rr w nw _ rfl) (fun v h hq => ?_)
            obtain ⟨rfl, rfl⟩ := hq
            refine mm_T.mask [true, false, true, true, true] ?_
            exact tbX12_readCell_73_J64 d n x2 x3 o371.1 (fX12_wrong 3 o371.2.1) o371.2.2 rv sp rr w nw out e
    · rw [if_neg h373] at e
      refine mm_T.mask [true, false, true, true, true] ?_
      exact tbX12_readCell_73_J64 d n x2 x3 o371.1 o371.2.1 o371.2.2 rv sp rr w nw out e
  · rw [if_neg h372] at e
    refine mm_T.mask [true, false, true, true, true] ?_
    exact tbX12_readCell_73_J64 d n x2 x3 o371.1 o371.2.1 o371.2.2 rv sp rr w nw out e
def fX12_readIron (n : Nat) (I : Nat → Nat → Int32) (J : Nat → Nat → Int64) : Option ((Nat → Nat → Int32) × (Nat → Nat → Int64)) := (fX12_token n I J).bind fun o370 => (fX12_readCell_73 n 1 ((o370.1 62 39) - 1) o370.1 o370.2).bind fun o379 => (if 0 < (o379.2.1 62 2) then some (o379.2.1, o379.2.2) else (if o379.1 < 0 ∨ 56 ≤ o379.1.toNatClampNeg then none else some ((mm_up (mm_up o379.2.1 73 o379.1.toNatClampNeg 1) 62 41 ((o379.2.1 62 41) + 1)), o379.2.2)))
set_option maxRecDepth 100000 in
set_option maxHeartbeats 4000000 in
theorem tX12_readIron (d n : Nat) (I : Nat → Nat → Int32) (J : Nat → Nat → Int64) (rv sp rr w nw : Nat) (out : (Nat → Nat → Int32) × (Nat → Nat → Int64)) (e : fX12_readIron n I J = some out) : mm_T none (d + 4) 245 (mm_ent 245 [(.ref 62)]) (107, I, J, mm_rf rv sp rr w nw) (fun v h => v = none ∧ h = (107, out.1, out.2, mm_rf rv sp rr w nw)) := by
  unfold fX12_readIron at e
  refine mm_T.seg (f' := (1, [some (.ref 62), none], [(.ref 62)])) (h' := (107, I, J, mm_rf rv sp rr w nw)) 1 rfl ?_
  obtain ⟨o370, eo370, e⟩ := mm_bind e
  refine mm_T.call (t := 214) (as := [(.ref 62)]) (f' := (4, [some (.ref 62), none], [])) rfl (tX12_token (d + 2) n I J rv sp rr w nw o370 eo370) (fun v h hq => ?_)
  obtain ⟨rfl, rfl⟩ := hq
  refine mm_T.seg (f' := (16, [some (.ref 62), none], [(.int ((o370.1 62 39) - 1)), (.int 1), (.ref 73), (.ref 62)])) (h' := (107, o370.1, o370.2, mm_rf rv sp rr w nw)) 8 rfl ?_
  obtain ⟨o379, eo379, e⟩ := mm_bind e
  refine mm_T.call (t := 243) (as := [(.ref 62), (.ref 73), (.int 1), (.int ((o370.1 62 39) - 1))]) (f' := (19, [some (.ref 62), none], [])) rfl (tX12_readCell_73 (d + 0) n 1 ((o370.1 62 39) - 1) o370.1 o370.2 rv sp rr w nw o379 eo379) (fun v h hq => ?_)
  obtain ⟨rfl, rfl⟩ := hq
  refine mm_T.seg (f' := (24, [some (.ref 62), some (.int o379.1)], [(.int (o379.2.1 62 2))])) (h' := (107, o379.2.1, o379.2.2, mm_rf rv sp rr w nw)) 3 rfl ?_
  refine mm_T.br (c := 0 < (o379.2.1 62 2)) (a := ((27, [some (.ref 62), some (.int o379.1)], []), (107, o379.2.1, o379.2.2, mm_rf rv sp rr w nw))) (b := ((28, [some (.ref 62), some (.int o379.1)], []), (107, o379.2.1, o379.2.2, mm_rf rv sp rr w nw))) rfl (fun h380 => ?_) (fun h380 => ?_)
  · rw [if_pos h380] at e
    cases e
    exact mm_T.ret rfl ⟨rfl, rfl⟩
  · rw [if_neg h380] at e
    refine mm_T.seg (f' := (34, [some (.ref 62), some (.int o379.1)], [(.int 1), (.int o379.1), (.ref 73)])) (h' := (107, o379.2.1, o379.2.2, mm_rf rv sp rr w nw)) 4 rfl ?_
    by_cases h381 : o379.1 < 0 ∨ 56 ≤ o379.1.toNatClampNeg
    · rw [if_pos h381] at e; cases e
    rw [if_neg h381] at e
    refine mm_T.guard (y := ((35, [some (.ref 62), some (.int o379.1)], []), (107, (mm_up o379.2.1 73 o379.1.toNatClampNeg 1), o379.2.2, mm_rf rv sp rr w nw))) rfl h381 ?_
    refine mm_T.seg (f' := (45, [some (.ref 62), some (.int o379.1)], [])) (h' := (107, (mm_up (mm_up o379.2.1 73 o379.1.toNatClampNeg 1) 62 41 ((o379.2.1 62 41) + 1)), o379.2.2, mm_rf rv sp rr w nw)) 6 rfl ?_
    cases e
    exact mm_T.ret rfl ⟨rfl, rfl⟩
def fX12_readBoard_J87 (u0 : Int32) (u1 : Int32) (I : Nat → Nat → Int32) (J : Nat → Nat → Int64) : Option ((Nat → Nat → Int32) × (Nat → Nat → Int64)) := (if u1 < 0 ∨ 4 ≤ u1.toNatClampNeg then none else (if (I 62 2) = 0 then some ((mm_up (mm_up I 76 u1.toNatClampNeg u0) 62 42 ((I 62 42) + 1)), J) else some ((mm_up I 76 u1.toNatClampNeg u0), J)))
def fX12_readBoard_J85 (u0 : Int32) (I : Nat → Nat → Int32) (J : Nat → Nat → Int64) : Option ((Nat → Nat → Int32) × (Nat → Nat → Int64)) := (fX12_readBoard_J87 20 u0 I J)
def fX12_readBoard (n : Nat) (I : Nat → Nat → Int32) (J : Nat → Nat → Int64) : Option ((Nat → Nat → Int32) × (Nat → Nat → Int64)) := (fX12_newName n 0 (I 62 42) I J).bind fun o382 => (fX12_told n 2003395685 0 99 o382.1 o382.2).bind fun o383 => (if (o382.1 62 42) < 0 ∨ 4 ≤ (o382.1 62 42).toNatClampNeg then none else (fX12_told n 24948 0 ((o383.2.1 62 38) - 1) (mm_up o383.2.1 74 (o382.1 62 42).toNatClampNeg o383.1) o383.2.2).bind fun o385 => (if (o382.1 62 42) < 0 ∨ 4 ≤ (o382.1 62 42).toNatClampNeg then none else (if (o385.2.1 62 2) = 0 then (if (fX12_isWord 422607680115 (mm_up o385.2.1 75 (o382.1 62 42).toNatClampNeg o385.1) o385.2.2) = 0 then (fX12_readBoard_J85 (o382.1 62 42) (mm_up o385.2.1 75 (o382.1 62 42).toNatClampNeg o385.1) o385.2.2) else (fX12_told n 422607680115 0 99 (mm_up o385.2.1 75 (o382.1 62 42).toNatClampNeg o385.1) o385.2.2).bind fun o391 => (fX12_readBoard_J87 o391.1 (o382.1 62 42) o391.2.1 o391.2.2)) else (fX12_readBoard_J85 (o382.1 62 42) (mm_up o385.2.1 75 (o382.1 62 42).toNatClampNeg o385.1) o385.2.2))))
set_option maxRecDepth 100000 in
set_option maxHeartbeats 4000000 in
theorem tbX12_readBoard_J87 (d : Nat) (u0 : Int32) (u1 : Int32) (I : Nat → Nat → Int32) (J : Nat → Nat → Int64) (rv sp rr w nw : Nat) (out : (Nat → Nat → Int32) × (Nat → Nat → Int64)) (e : fX12_readBoard_J87 u0 u1 I J = some out) : mm_T none (d + 4) 246 (87, [some (.ref 62), none], [(.int u0), (.int u1), (.ref 76)]) (107, I, J, mm_rf rv sp rr w nw) (fun v h => v = none ∧ h = (107, out.1, out.2, mm_rf rv sp rr w nw)) := by
  unfold fX12_readBoard_J87 at e
  by_cases h389 : u1 < 0 ∨ 4 ≤ u1.toNatClampNeg
  · rw [if_pos h389] at e; cases e
  rw [if_neg h389] at e
  refine mm_T.guard (y := ((88, [some (.ref 62), none], []), (107, (mm_up I 76 u1.toNatClampNeg u0), J, mm_rf rv sp rr w nw))) rfl h389 ?_
  refine mm_T.seg (f' := (92, [some (.ref 62), none], [(.int (I 62 2))])) (h' := (107, (mm_up I 76 u1.toNatClampNeg u0), J, mm_rf rv sp rr w nw)) 2 rfl ?_
  refine mm_T.br (c := (I 62 2) = 0) (a := ((95, [some (.ref 62), none], []), (107, (mm_up I 76 u1.toNatClampNeg u0), J, mm_rf rv sp rr w nw))) (b := ((105, [some (.ref 62), none], []), (107, (mm_up I 76 u1.toNatClampNeg u0), J, mm_rf rv sp rr w nw))) rfl (fun h390 => ?_) (fun h390 => ?_)
  · rw [if_pos h390] at e
    refine mm_T.seg (f' := (105, [some (.ref 62), none], [])) (h' := (107, (mm_up (mm_up I 76 u1.toNatClampNeg u0) 62 42 ((I 62 42) + 1)), J, mm_rf rv sp rr w nw)) 6 rfl ?_
    cases e
    exact mm_T.ret rfl ⟨rfl, rfl⟩
  · rw [if_neg h390] at e
    cases e
    exact mm_T.ret rfl ⟨rfl, rfl⟩
set_option maxRecDepth 100000 in
set_option maxHeartbeats 4000000 in
theorem tbX12_readBoard_J85 (d : Nat) (u0 : Int32) (I : Nat → Nat → Int32) (J : Nat → Nat → Int64) (rv sp rr w nw : Nat) (out : (Nat → Nat → Int32) × (Nat → Nat → Int64)) (e : fX12_readBoard_J85 u0 I J = some out) : mm_T none (d + 4) 246 (85, [some (.ref 62), none], [(.int u0), (.ref 76)]) (107, I, J, mm_rf rv sp rr w nw) (fun v h => v = none ∧ h = (107, out.1, out.2, mm_rf rv sp rr w nw)) := by
  unfold fX12_readBoard_J85 at e
  refine mm_T.seg (f' := (87, [some (.ref 62), none], [(.int 20), (.int u0), (.ref 76)])) (h' := (107, I, J, mm_rf rv sp rr w nw)) 1 rfl ?_
  refine mm_T.mask [true, false] ?_
  exact tbX12_readBoard_J87 d 20 u0 I J rv sp rr w nw out e
set_option maxRecDepth 100000 in
set_option maxHeartbeats 4000000 in
theorem tX12_readBoard (d n : Nat) (I : Nat → Nat → Int32) (J : Nat → Nat → Int64) (rv sp rr w nw : Nat) (out : (Nat → Nat → Int32) × (Nat → Nat → Int64)) (e : fX12_readBoard n I J = some out) : mm_T none (d + 4) 246 (mm_ent 246 [(.ref 62)]) (107, I, J, mm_rf rv sp rr w nw) (fun v h => v = none ∧ h = (107, out.1, out.2, mm_rf rv sp rr w nw)) := by
  unfold fX12_readBoard at e
  refine mm_T.seg (f' := (6, [some (.ref 62), none], [(.int (I 62 42)), (.int 0), (.ref 62)])) (h' := (107, I, J, mm_rf rv sp rr w nw)) 4 rfl ?_
  obtain ⟨o382, eo382, e⟩ := mm_bind e
  refine mm_T.call (t := 222) (as := [(.ref 62), (.int 0), (.int (I 62 42))]) (f' := (9, [some (.ref 62), none], [])) rfl (tX12_newName (d + 1) n 0 (I 62 42) I J rv sp rr w nw o382 eo382) (fun v h hq => ?_)
  obtain ⟨rfl, rfl⟩ := hq
  refine mm_T.seg (f' := (26, [some (.ref 62), some (.int (o382.1 62 42))], [(.int 99), (.int 0), (.long 2003395685), (.ref 62), (.int (o382.1 62 42)), (.ref 74)])) (h' := (107, o382.1, o382.2, mm_rf rv sp rr w nw)) 10 rfl ?_
  obtain ⟨o383, eo383, e⟩ := mm_bind e
  refine mm_T.call (t := 221) (as := [(.ref 62), (.long 2003395685), (.int 0), (.int 99)]) (f' := (29, [some (.ref 62), some (.int (o382.1 62 42))], [(.int (o382.1 62 42)), (.ref 74)])) rfl (tX12_told (d + 0) n 2003395685 0 99 o382.1 o382.2 rv sp rr w nw o383 eo383) (fun v h hq => ?_)
  obtain ⟨rfl, rfl⟩ := hq
  by_cases h384 : (o382.1 62 42) < 0 ∨ 4 ≤ (o382.1 62 42).toNatClampNeg
  · rw [if_pos h384] at e; cases e
  rw [if_neg h384] at e
  refine mm_T.guard (y := ((30, [some (.ref 62), some (.int (o382.1 62 42))], []), (107, (mm_up o383.2.1 74 (o382.1 62 42).toNatClampNeg o383.1), o383.2.2, mm_rf rv sp rr w nw))) rfl h384 ?_
  refine mm_T.seg (f' := (46, [some (.ref 62), some (.int (o382.1 62 42))], [(.int ((o383.2.1 62 38) - 1)), (.int 0), (.long 24948), (.ref 62), (.int (o382.1 62 42)), (.ref 75)])) (h' := (107, (mm_up o383.2.1 74 (o382.1 62 42).toNatClampNeg o383.1), o383.2.2, mm_rf rv sp rr w nw)) 10 rfl ?_
  obtain ⟨o385, eo385, e⟩ := mm_bind e
  refine mm_T.call (t := 221) (as := [(.ref 62), (.long 24948), (.int 0), (.int ((o383.2.1 62 38) - 1))]) (f' := (49, [some (.ref 62), some (.int (o382.1 62 42))], [(.int (o382.1 62 42)), (.ref 75)])) rfl (tX12_told (d + 0) n 24948 0 ((o383.2.1 62 38) - 1) (mm_up o383.2.1 74 (o382.1 62 42).toNatClampNeg o383.1) o383.2.2 rv sp rr w nw o385 eo385) (fun v h hq => ?_)
  obtain ⟨rfl, rfl⟩ := hq
  by_cases h386 : (o382.1 62 42) < 0 ∨ 4 ≤ (o382.1 62 42).toNatClampNeg
  · rw [if_pos h386] at e; cases e
  rw [if_neg h386] at e
  refine mm_T.guard (y := ((50, [some (.ref 62), some (.int (o382.1 62 42))], []), (107, (mm_up o385.2.1 75 (o382.1 62 42).toNatClampNeg o385.1), o385.2.2, mm_rf rv sp rr w nw))) rfl h386 ?_
  refine mm_T.seg (f' := (59, [some (.ref 62), some (.int (o382.1 62 42))], [(.int (o385.2.1 62 2)), (.int (o382.1 62 42)), (.ref 76)])) (h' := (107, (mm_up o385.2.1 75 (o382.1 62 42).toNatClampNeg o385.1), o385.2.2, mm_rf rv sp rr w nw)) 5 rfl ?_
  refine mm_T.br (c := (o385.2.1 62 2) = 0) (a := ((62, [some (.ref 62), some (.int (o382.1 62 42))], [(.int (o382.1 62 42)), (.ref 76)]), (107, (mm_up o385.2.1 75 (o382.1 62 42).toNatClampNeg o385.1), o385.2.2, mm_rf rv sp rr w nw))) (b := ((85, [some (.ref 62), some (.int (o382.1 62 42))], [(.int (o382.1 62 42)), (.ref 76)]), (107, (mm_up o385.2.1 75 (o382.1 62 42).toNatClampNeg o385.1), o385.2.2, mm_rf rv sp rr w nw))) rfl (fun h387 => ?_) (fun h387 => ?_)
  · rw [if_pos h387] at e
    refine mm_T.seg (f' := (66, [some (.ref 62), some (.int (o382.1 62 42))], [(.long 422607680115), (.ref 62), (.int (o382.1 62 42)), (.ref 76)])) (h' := (107, (mm_up o385.2.1 75 (o382.1 62 42).toNatClampNeg o385.1), o385.2.2, mm_rf rv sp rr w nw)) 2 rfl ?_
    refine mm_T.call (t := 216) (as := [(.ref 62), (.long 422607680115)]) (f' := (69, [some (.ref 62), some (.int (o382.1 62 42))], [(.int (o382.1 62 42)), (.ref 76)])) rfl (tX12_isWord (d + 3) 422607680115 (mm_up o385.2.1 75 (o382.1 62 42).toNatClampNeg o385.1) o385.2.2 rv sp rr w nw _ rfl) (fun v h hq => ?_)
    obtain ⟨rfl, rfl⟩ := hq
    refine mm_T.br (c := (fX12_isWord 422607680115 (mm_up o385.2.1 75 (o382.1 62 42).toNatClampNeg o385.1) o385.2.2) = 0) (a := ((85, [some (.ref 62), some (.int (o382.1 62 42))], [(.int (o382.1 62 42)), (.ref 76)]), (107, (mm_up o385.2.1 75 (o382.1 62 42).toNatClampNeg o385.1), o385.2.2, mm_rf rv sp rr w nw))) (b := ((72, [some (.ref 62), some (.int (o382.1 62 42))], [(.int (o382.1 62 42)), (.ref 76)]), (107, (mm_up o385.2.1 75 (o382.1 62 42).toNatClampNeg o385.1), o385.2.2, mm_rf rv sp rr w nw))) rfl (fun h388 => ?_) (fun h388 => ?_)
    · rw [if_pos h388] at e
      refine mm_T.mask [true, false] ?_
      exact tbX12_readBoard_J85 d (o382.1 62 42) (mm_up o385.2.1 75 (o382.1 62 42).toNatClampNeg o385.1) o385.2.2 rv sp rr w nw out e
    · rw [if_neg h388] at e
      refine mm_T.seg (f' := (79, [some (.ref 62), some (.int (o382.1 62 42))], [(.int 99), (.int 0), (.long 422607680115), (.ref 62), (.int (o382.1 62 42)), (.ref 76)])) (h' := (107, (mm_up o385.2.1 75 (o382.1 62 42).toNatClampNeg o385.1), o385.2.2, mm_rf rv sp rr w nw)) 4 rfl ?_
      obtain ⟨o391, eo391, e⟩ := mm_bind e
      refine mm_T.call (t := 221) (as := [(.ref 62), (.long 422607680115), (.int 0), (.int 99)]) (f' := (82, [some (.ref 62), some (.int (o382.1 62 42))], [(.int (o382.1 62 42)), (.ref 76)])) rfl (tX12_told (d + 0) n 422607680115 0 99 (mm_up o385.2.1 75 (o382.1 62 42).toNatClampNeg o385.1) o385.2.2 rv sp rr w nw o391 eo391) (fun v h hq => ?_)
      obtain ⟨rfl, rfl⟩ := hq
      refine mm_T.seg (f' := (87, [some (.ref 62), some (.int (o382.1 62 42))], [(.int o391.1), (.int (o382.1 62 42)), (.ref 76)])) (h' := (107, o391.2.1, o391.2.2, mm_rf rv sp rr w nw)) 1 rfl ?_
      refine mm_T.mask [true, false] ?_
      exact tbX12_readBoard_J87 d o391.1 (o382.1 62 42) o391.2.1 o391.2.2 rv sp rr w nw out e
  · rw [if_neg h387] at e
    refine mm_T.mask [true, false] ?_
    exact tbX12_readBoard_J85 d (o382.1 62 42) (mm_up o385.2.1 75 (o382.1 62 42).toNatClampNeg o385.1) o385.2.2 rv sp rr w nw out e
def fX12_readLoad (n : Nat) (I : Nat → Nat → Int32) (J : Nat → Nat → Int64) : Option ((Nat → Nat → Int32) × (Nat → Nat → Int64)) := (fX12_newName n 4 (I 62 43) I J).bind fun o392 => (fX12_told n 2003395685 0 99 o392.1 o392.2).bind fun o393 => (if (o392.1 62 43) < 0 ∨ 7 ≤ (o392.1 62 43).toNatClampNeg then none else (if (o393.2.1 62 2) = 0 then some ((mm_up (mm_up o393.2.1 77 (o392.1 62 43).toNatClampNeg o393.1) 62 43 ((o393.2.1 62 43) + 1)), o393.2.2) else some ((mm_up o393.2.1 77 (o392.1 62 43).toNatClampNeg o393.1), o393.2.2)))
set_option maxRecDepth 100000 in
set_option maxHeartbeats 4000000 in
theorem tX12_readLoad (d n : Nat) (I : Nat → Nat → Int32) (J : Nat → Nat → Int64) (rv sp rr w nw : Nat) (out : (Nat → Nat → Int32) × (Nat → Nat → Int64)) (e : fX12_readLoad n I J = some out) : mm_T none (d + 4) 247 (mm_ent 247 [(.ref 62)]) (107, I, J, mm_rf rv sp rr w nw) (fun v h => v = none ∧ h = (107, out.1, out.2, mm_rf rv sp rr w nw)) := by
  unfold fX12_readLoad at e
  refine mm_T.seg (f' := (6, [some (.ref 62)], [(.int (I 62 43)), (.int 4), (.ref 62)])) (h' := (107, I, J, mm_rf rv sp rr w nw)) 4 rfl ?_
  obtain ⟨o392, eo392, e⟩ := mm_bind e
  refine mm_T.call (t := 222) (as := [(.ref 62), (.int 4), (.int (I 62 43))]) (f' := (9, [some (.ref 62)], [])) rfl (tX12_newName (d + 1) n 4 (I 62 43) I J rv sp rr w nw o392 eo392) (fun v h hq => ?_)
  obtain ⟨rfl, rfl⟩ := hq
  refine mm_T.seg (f' := (24, [some (.ref 62)], [(.int 99), (.int 0), (.long 2003395685), (.ref 62), (.int (o392.1 62 43)), (.ref 77)])) (h' := (107, o392.1, o392.2, mm_rf rv sp rr w nw)) 8 rfl ?_
  obtain ⟨o393, eo393, e⟩ := mm_bind e
  refine mm_T.call (t := 221) (as := [(.ref 62), (.long 2003395685), (.int 0), (.int 99)]) (f' := (27, [some (.ref 62)], [(.int (o392.1 62 43)), (.ref 77)])) rfl (tX12_told (d + 0) n 2003395685 0 99 o392.1 o392.2 rv sp rr w nw o393 eo393) (fun v h hq => ?_)
  obtain ⟨rfl, rfl⟩ := hq
  by_cases h394 : (o392.1 62 43) < 0 ∨ 7 ≤ (o392.1 62 43).toNatClampNeg
  · rw [if_pos h394] at e; cases e
  rw [if_neg h394] at e
  refine mm_T.guard (y := ((28, [some (.ref 62)], []), (107, (mm_up o393.2.1 77 (o392.1 62 43).toNatClampNeg o393.1), o393.2.2, mm_rf rv sp rr w nw))) rfl h394 ?_
  refine mm_T.seg (f' := (32, [some (.ref 62)], [(.int (o393.2.1 62 2))])) (h' := (107, (mm_up o393.2.1 77 (o392.1 62 43).toNatClampNeg o393.1), o393.2.2, mm_rf rv sp rr w nw)) 2 rfl ?_
  refine mm_T.br (c := (o393.2.1 62 2) = 0) (a := ((35, [some (.ref 62)], []), (107, (mm_up o393.2.1 77 (o392.1 62 43).toNatClampNeg o393.1), o393.2.2, mm_rf rv sp rr w nw))) (b := ((45, [some (.ref 62)], []), (107, (mm_up o393.2.1 77 (o392.1 62 43).toNatClampNeg o393.1), o393.2.2, mm_rf rv sp rr w nw))) rfl (fun h395 => ?_) (fun h395 => ?_)
  · rw [if_pos h395] at e
    refine mm_T.seg (f' := (45, [some (.ref 62)], [])) (h' := (107, (mm_up (mm_up o393.2.1 77 (o392.1 62 43).toNatClampNeg o393.1) 62 43 ((o393.2.1 62 43) + 1)), o393.2.2, mm_rf rv sp rr w nw)) 6 rfl ?_
    cases e
    exact mm_T.ret rfl ⟨rfl, rfl⟩
  · rw [if_neg h395] at e
    cases e
    exact mm_T.ret rfl ⟨rfl, rfl⟩
def fX12_readLine_J235 (n : Nat) (I : Nat → Nat → Int32) (J : Nat → Nat → Int64) : Option ((Nat → Nat → Int32) × (Nat → Nat → Int64)) := (if (I 62 2) = 0 then (if (I 62 6) = 59 then (if (I 62 2) = 0 then (fX12_token n (mm_up I 62 51 1) J).bind fun o407 => some (o407.1, o407.2) else some ((mm_up I 62 51 1), J)) else (if ((fX12_wrong 2 (mm_up I 62 51 1)) 62 2) = 0 then (fX12_token n (fX12_wrong 2 (mm_up I 62 51 1)) J).bind fun o409 => some (o409.1, o409.2) else some ((fX12_wrong 2 (mm_up I 62 51 1)), J))) else (if (I 62 2) = 0 then (fX12_token n (mm_up I 62 51 1) J).bind fun o411 => some (o411.1, o411.2) else some ((mm_up I 62 51 1), J)))
def fX12_readLine_J230 (n : Nat) (I : Nat → Nat → Int32) (J : Nat → Nat → Int64) : Option ((Nat → Nat → Int32) × (Nat → Nat → Int64)) := (fX12_readLine_J235 n (fX12_wrong 2 I) J)
def fX12_readLine_J190 (n : Nat) (I : Nat → Nat → Int32) (J : Nat → Nat → Int64) : Option ((Nat → Nat → Int32) × (Nat → Nat → Int64)) := (if (fX12_isWord 1685217655 I J) = 0 then (fX12_readLine_J230 n I J) else (if (I 62 53) = 0 then (fX12_told n 1685217655 0 999 (mm_up I 62 53 1) J).bind fun o413 => (fX12_readLine_J235 n (mm_up o413.2.1 62 45 o413.1) o413.2.2) else (fX12_readLine_J230 n I J)))
def fX12_readLine_J151 (n : Nat) (I : Nat → Nat → Int32) (J : Nat → Nat → Int64) : Option ((Nat → Nat → Int32) × (Nat → Nat → Int64)) := (if (fX12_isWord 439905906532 I J) = 0 then (fX12_readLine_J190 n I J) else (if (I 62 52) = 0 then (fX12_told n 439905906532 0 100 (mm_up I 62 52 1) J).bind fun o415 => (fX12_readLine_J235 n (mm_up o415.2.1 62 44 o415.1) o415.2.2) else (fX12_readLine_J190 n I J)))
def fX12_readLine_J127 (n : Nat) (I : Nat → Nat → Int32) (J : Nat → Nat → Int64) : Option ((Nat → Nat → Int32) × (Nat → Nat → Int64)) := (if (fX12_isWord 1751474548 I J) = 0 then (fX12_readLine_J151 n I J) else (if (I 62 24) = 0 then (fX12_formula n I J).bind fun o417 => (fX12_readLine_J235 n o417.1 o417.2) else (fX12_readLine_J151 n I J)))
def fX12_readLine_J101 (n : Nat) (I : Nat → Nat → Int32) (J : Nat → Nat → Int64) : Option ((Nat → Nat → Int32) × (Nat → Nat → Int64)) := (if (fX12_isWord 1819238756 I J) = 0 then (fX12_readLine_J127 n I J) else (if (I 62 43) < 7 then (fX12_readLoad n I J).bind fun o419 => (fX12_readLine_J235 n o419.1 o419.2) else (fX12_readLine_J127 n I J)))
def fX12_readLine_J76 (n : Nat) (I : Nat → Nat → Int32) (J : Nat → Nat → Int64) : Option ((Nat → Nat → Int32) × (Nat → Nat → Int64)) := (if (fX12_isWord 422775452260 I J) = 0 then (fX12_readLine_J101 n I J) else (if (I 62 42) < 4 then (fX12_readBoard n I J).bind fun o421 => (fX12_readLine_J235 n o421.1 o421.2) else (fX12_readLine_J101 n I J)))
def fX12_readLine_J50 (n : Nat) (I : Nat → Nat → Int32) (J : Nat → Nat → Int64) : Option ((Nat → Nat → Int32) × (Nat → Nat → Int64)) := (if (fX12_isWord 1769107310 I J) = 0 then (fX12_readLine_J76 n I J) else (if (I 62 41) < 6 then (fX12_readIron n I J).bind fun o423 => (fX12_readLine_J235 n o423.1 o423.2) else (fX12_readLine_J76 n I J)))
def fX12_readLine_J24 (n : Nat) (I : Nat → Nat → Int32) (J : Nat → Nat → Int64) : Option ((Nat → Nat → Int32) × (Nat → Nat → Int64)) := (if (fX12_isWord 27995157100326516 I J) = 0 then (fX12_readLine_J50 n I J) else (if (I 62 40) < 16 then (fX12_readCurrent n I J).bind fun o425 => (fX12_readLine_J235 n o425.1 o425.2) else (fX12_readLine_J50 n I J)))
def fX12_readLine (n : Nat) (I : Nat → Nat → Int32) (J : Nat → Nat → Int64) : Option ((Nat → Nat → Int32) × (Nat → Nat → Int64)) := (if (fX12_isWord 512736126322 I J) = 0 then (fX12_readLine_J24 n I J) else (if (I 62 51) = 0 then (fX12_readWater n I J).bind fun o427 => (fX12_readLine_J235 n o427.1 o427.2) else (fX12_readLine_J24 n I J)))
set_option maxRecDepth 100000 in
set_option maxHeartbeats 4000000 in
theorem tbX12_readLine_J235 (d n : Nat) (I : Nat → Nat → Int32) (J : Nat → Nat → Int64) (rv sp rr w nw : Nat) (out : (Nat → Nat → Int32) × (Nat → Nat → Int64)) (e : fX12_readLine_J235 n I J = some out) : mm_T none (d + 5) 248 (235, [some (.ref 62)], []) (107, I, J, mm_rf rv sp rr w nw) (fun v h => v = none ∧ h = (107, out.1, out.2, mm_rf rv sp rr w nw)) := by
  unfold fX12_readLine_J235 at e
  refine mm_T.seg (f' := (244, [some (.ref 62)], [(.int (I 62 2))])) (h' := (107, (mm_up I 62 51 1), J, mm_rf rv sp rr w nw)) 5 rfl ?_
  refine mm_T.br (c := (I 62 2) = 0) (a := ((247, [some (.ref 62)], []), (107, (mm_up I 62 51 1), J, mm_rf rv sp rr w nw))) (b := ((261, [some (.ref 62)], []), (107, (mm_up I 62 51 1), J, mm_rf rv sp rr w nw))) rfl (fun h404 => ?_) (fun h404 => ?_)
  · rw [if_pos h404] at e
    refine mm_T.seg (f' := (253, [some (.ref 62)], [(.int 59), (.int (I 62 6))])) (h' := (107, (mm_up I 62 51 1), J, mm_rf rv sp rr w nw)) 3 rfl ?_
    refine mm_T.br (c := (I 62 6) = 59) (a := ((261, [some (.ref 62)], []), (107, (mm_up I 62 51 1), J, mm_rf rv sp rr w nw))) (b := ((256, [some (.ref 62)], []), (107, (mm_up I 62 51 1), J, mm_rf rv sp rr w nw))) rfl (fun h405 => ?_) (fun h405 => ?_)
    · rw [if_pos h405] at e
      refine mm_T.seg (f' := (265, [some (.ref 62)], [(.int (I 62 2))])) (h' := (107, (mm_up I 62 51 1), J, mm_rf rv sp rr w nw)) 2 rfl ?_
      refine mm_T.br (c := (I 62 2) = 0) (a := ((268, [some (.ref 62)], []), (107, (mm_up I 62 51 1), J, mm_rf rv sp rr w nw))) (b := ((272, [some (.ref 62)], []), (107, (mm_up I 62 51 1), J, mm_rf rv sp rr w nw))) rfl (fun h406 => ?_) (fun h406 => ?_)
      · rw [if_pos h406] at e
        refine mm_T.seg (f' := (269, [some (.ref 62)], [(.ref 62)])) (h' := (107, (mm_up I 62 51 1), J, mm_rf rv sp rr w nw)) 1 rfl ?_
        obtain ⟨o407, eo407, e⟩ := mm_bind e
        refine mm_T.call (t := 214) (as := [(.ref 62)]) (f' := (272, [some (.ref 62)], [])) rfl (tX12_token (d + 3) n (mm_up I 62 51 1) J rv sp rr w nw o407 eo407) (fun v h hq => ?_)
        obtain ⟨rfl, rfl⟩ := hq
        cases e
        exact mm_T.ret rfl ⟨rfl, rfl⟩
      · rw [if_neg h406] at e
        cases e
        exact mm_T.ret rfl ⟨rfl, rfl⟩
    · rw [if_neg h405] at e
      refine mm_T.seg (f' := (258, [some (.ref 62)], [(.int 2), (.ref 62)])) (h' := (107, (mm_up I 62 51 1), J, mm_rf rv sp rr w nw)) 2 rfl ?_
      refine mm_T.call (t := 215) (as := [(.ref 62), (.int 2)]) (f' := (261, [some (.ref 62)], [])) rfl (tX12_wrong (d + 4) 2 (mm_up I 62 51 1) J rv sp rr w nw _ rfl) (fun v h hq => ?_)
      obtain ⟨rfl, rfl⟩ := hq
      refine mm_T.seg (f' := (265, [some (.ref 62)], [(.int ((fX12_wrong 2 (mm_up I 62 51 1)) 62 2))])) (h' := (107, (fX12_wrong 2 (mm_up I 62 51 1)), J, mm_rf rv sp rr w nw)) 2 rfl ?_
      refine mm_T.br (c := ((fX12_wrong 2 (mm_up I 62 51 1)) 62 2) = 0) (a := ((268, [some (.ref 62)], []), (107, (fX12_wrong 2 (mm_up I 62 51 1)), J, mm_rf rv sp rr w nw))) (b := ((272, [some (.ref 62)], []), (107, (fX12_wrong 2 (mm_up I 62 51 1)), J, mm_rf rv sp rr w nw))) rfl (fun h408 => ?_) (fun h408 => ?_)
      · rw [if_pos h408] at e
        refine mm_T.seg (f' := (269, [some (.ref 62)], [(.ref 62)])) (h' := (107, (fX12_wrong 2 (mm_up I 62 51 1)), J, mm_rf rv sp rr w nw)) 1 rfl ?_
        obtain ⟨o409, eo409, e⟩ := mm_bind e
        refine mm_T.call (t := 214) (as := [(.ref 62)]) (f' := (272, [some (.ref 62)], [])) rfl (tX12_token (d + 3) n (fX12_wrong 2 (mm_up I 62 51 1)) J rv sp rr w nw o409 eo409) (fun v h hq => ?_)
        obtain ⟨rfl, rfl⟩ := hq
        cases e
        exact mm_T.ret rfl ⟨rfl, rfl⟩
      · rw [if_neg h408] at e
        cases e
        exact mm_T.ret rfl ⟨rfl, rfl⟩
  · rw [if_neg h404] at e
    refine mm_T.seg (f' := (265, [some (.ref 62)], [(.int (I 62 2))])) (h' := (107, (mm_up I 62 51 1), J, mm_rf rv sp rr w nw)) 2 rfl ?_
    refine mm_T.br (c := (I 62 2) = 0) (a := ((268, [some (.ref 62)], []), (107, (mm_up I 62 51 1), J, mm_rf rv sp rr w nw))) (b := ((272, [some (.ref 62)], []), (107, (mm_up I 62 51 1), J, mm_rf rv sp rr w nw))) rfl (fun h410 => ?_) (fun h410 => ?_)
    · rw [if_pos h410] at e
      refine mm_T.seg (f' := (269, [some (.ref 62)], [(.ref 62)])) (h' := (107, (mm_up I 62 51 1), J, mm_rf rv sp rr w nw)) 1 rfl ?_
      obtain ⟨o411, eo411, e⟩ := mm_bind e
      refine mm_T.call (t := 214) (as := [(.ref 62)]) (f' := (272, [some (.ref 62)], [])) rfl (tX12_token (d + 3) n (mm_up I 62 51 1) J rv sp rr w nw o411 eo411) (fun v h hq => ?_)
      obtain ⟨rfl, rfl⟩ := hq
      cases e
      exact mm_T.ret rfl ⟨rfl, rfl⟩
    · rw [if_neg h410] at e
      cases e
      exact mm_T.ret rfl ⟨rfl, rfl⟩
set_option maxRecDepth 100000 in
set_option maxHeartbeats 4000000 in
theorem tbX12_readLine_J230 (d n : Nat) (I : Nat → Nat → Int32) (J : Nat → Nat → Int64) (rv sp rr w nw : Nat) (out : (Nat → Nat → Int32) × (Nat → Nat → Int64)) (e : fX12_readLine_J230 n I J = some out) : mm_T none (d + 5) 248 (230, [some (.ref 62)], []) (107, I, J, mm_rf rv sp rr w nw) (fun v h => v = none ∧ h = (107, out.1, out.2, mm_rf rv sp rr w nw)) := by
  unfold fX12_readLine_J230 at e
  refine mm_T.seg (f' := (232, [some (.ref 62)], [(.int 2), (.ref 62)])) (h' := (107, I, J, mm_rf rv sp rr w nw)) 2 rfl ?_
  refine mm_T.call (t := 215) (as := [(.ref 62), (.int 2)]) (f' := (235, [some (.ref 62)], [])) rfl (tX12_wrong (d + 4) 2 I J rv sp rr w nw _ rfl) (fun v h hq => ?_)
  obtain ⟨rfl, rfl⟩ := hq
  refine mm_T.mask [true] ?_
  exact tbX12_readLine_J235 d n (fX12_wrong 2 I) J rv sp rr w nw out e
set_option maxRecDepth 100000 in
set_option maxHeartbeats 4000000 in
theorem tbX12_readLine_J190 (d n : Nat) (I : Nat → Nat → Int32) (J : Nat → Nat → Int64) (rv sp rr w nw : Nat) (out : (Nat → Nat → Int32) × (Nat → Nat → Int64)) (e : fX12_readLine_J190 n I J = some out) : mm_T none (d + 5) 248 (190, [some (.ref 62)], []) (107, I, J, mm_rf rv sp rr w nw) (fun v h => v = none ∧ h = (107, out.1, out.2, mm_rf rv sp rr w nw)) := by
  unfold fX12_readLine_J190 at e
  refine mm_T.seg (f' := (194, [some (.ref 62)], [(.long 1685217655), (.ref 62)])) (h' := (107, I, J, mm_rf rv sp rr w nw)) 2 rfl ?_
  refine mm_T.call (t := 216) (as := [(.ref 62), (.long 1685217655)]) (f' := (197, [some (.ref 62)], [])) rfl (tX12_isWord (d + 4) 1685217655 I J rv sp rr w nw _ rfl) (fun v h hq => ?_)
  obtain ⟨rfl, rfl⟩ := hq
  refine mm_T.br (c := (fX12_isWord 1685217655 I J) = 0) (a := ((230, [some (.ref 62)], []), (107, I, J, mm_rf rv sp rr w nw))) (b := ((200, [some (.ref 62)], []), (107, I, J, mm_rf rv sp rr w nw))) rfl (fun h403 => ?_) (fun h403 => ?_)
  · rw [if_pos h403] at e
    refine mm_T.mask [true] ?_
    exact tbX12_readLine_J230 d n I J rv sp rr w nw out e
  · rw [if_neg h403] at e
    refine mm_T.seg (f' := (204, [some (.ref 62)], [(.int (I 62 53))])) (h' := (107, I, J, mm_rf rv sp rr w nw)) 2 rfl ?_
    refine mm_T.br (c := (I 62 53) = 0) (a := ((207, [some (.ref 62)], []), (107, I, J, mm_rf rv sp rr w nw))) (b := ((230, [some (.ref 62)], []), (107, I, J, mm_rf rv sp rr w nw))) rfl (fun h412 => ?_) (fun h412 => ?_)
    · rw [if_pos h412] at e
      refine mm_T.seg (f' := (221, [some (.ref 62)], [(.int 999), (.int 0), (.long 1685217655), (.ref 62), (.ref 62)])) (h' := (107, (mm_up I 62 53 1), J, mm_rf rv sp rr w nw)) 8 rfl ?_
      obtain ⟨o413, eo413, e⟩ := mm_bind e
      refine mm_T.call (t := 221) (as := [(.ref 62), (.long 1685217655), (.int 0), (.int 999)]) (f' := (224, [some (.ref 62)], [(.ref 62)])) rfl (tX12_told (d + 1) n 1685217655 0 999 (mm_up I 62 53 1) J rv sp rr w nw o413 eo413) (fun v h hq => ?_)
      obtain ⟨rfl, rfl⟩ := hq
      refine mm_T.seg (f' := (235, [some (.ref 62)], [])) (h' := (107, (mm_up o413.2.1 62 45 o413.1), o413.2.2, mm_rf rv sp rr w nw)) 2 rfl ?_
      refine mm_T.mask [true] ?_
      exact tbX12_readLine_J235 d n (mm_up o413.2.1 62 45 o413.1) o413.2.2 rv sp rr w nw out e
    · rw [if_neg h412] at e
      refine mm_T.mask [true] ?_
      exact tbX12_readLine_J230 d n I J rv sp rr w nw out e
set_option maxRecDepth 100000 in
set_option maxHeartbeats 4000000 in
theorem tbX12_readLine_J151 (d n : Nat) (I : Nat → Nat → Int32) (J : Nat → Nat → Int64) (rv sp rr w nw : Nat) (out : (Nat → Nat → Int32) × (Nat → Nat → Int64)) (e : fX12_readLine_J151 n I J = some out) : mm_T none (d + 5) 248 (151, [some (.ref 62)], []) (107, I, J, mm_rf rv sp rr w nw) (fun v h => v = none ∧ h = (107, out.1, out.2, mm_rf rv sp rr w nw)) := by
  unfold fX12_readLine_J151 at e
  refine mm_T.seg (f' := (155, [some (.ref 62)], [(.long 439905906532), (.ref 62)])) (h' := (107, I, J, mm_rf rv sp rr w nw)) 2 rfl ?_
  refine mm_T.call (t := 216) (as := [(.ref 62), (.long 439905906532)]) (f' := (158, [some (.ref 62)], [])) rfl (tX12_isWord (d + 4) 439905906532 I J rv sp rr w nw _ rfl) (fun v h hq => ?_)
  obtain ⟨rfl, rfl⟩ := hq
  refine mm_T.br (c := (fX12_isWord 439905906532 I J) = 0) (a := ((190, [some (.ref 62)], []), (107, I, J, mm_rf rv sp rr w nw))) (b := ((161, [some (.ref 62)], []), (107, I, J, mm_rf rv sp rr w nw))) rfl (fun h402 => ?_) (fun h402 => ?_)
  · rw [if_pos h402] at e
    refine mm_T.mask [true] ?_
    exact tbX12_readLine_J190 d n I J rv sp rr w nw out e
  · rw [if_neg h402] at e
    refine mm_T.seg (f' := (165, [some (.ref 62)], [(.int (I 62 52))])) (h' := (107, I, J, mm_rf rv sp rr w nw)) 2 rfl ?_
    refine mm_T.br (c := (I 62 52) = 0) (a := ((168, [some (.ref 62)], []), (107, I, J, mm_rf rv sp rr w nw))) (b := ((190, [some (.ref 62)], []), (107, I, J, mm_rf rv sp rr w nw))) rfl (fun h414 => ?_) (fun h414 => ?_)
    · rw [if_pos h414] at e
      refine mm_T.seg (f' := (181, [some (.ref 62)], [(.int 100), (.int 0), (.long 439905906532), (.ref 62), (.ref 62)])) (h' := (107, (mm_up I 62 52 1), J, mm_rf rv sp rr w nw)) 8 rfl ?_
      obtain ⟨o415, eo415, e⟩ := mm_bind e
      refine mm_T.call (t := 221) (as := [(.ref 62), (.long 439905906532), (.int 0), (.int 100)]) (f' := (184, [some (.ref 62)], [(.ref 62)])) rfl (tX12_told (d + 1) n 439905906532 0 100 (mm_up I 62 52 1) J rv sp rr w nw o415 eo415) (fun v h hq => ?_)
      obtain ⟨rfl, rfl⟩ := hq
      refine mm_T.seg (f' := (235, [some (.ref 62)], [])) (h' := (107, (mm_up o415.2.1 62 44 o415.1), o415.2.2, mm_rf rv sp rr w nw)) 2 rfl ?_
      refine mm_T.mask [true] ?_
      exact tbX12_readLine_J235 d n (mm_up o415.2.1 62 44 o415.1) o415.2.2 rv sp rr w nw out e
    · rw [if_neg h414] at e
      refine mm_T.mask [true] ?_
      exact tbX12_readLine_J190 d n I J rv sp rr w nw out e
set_option maxRecDepth 100000 in
set_option maxHeartbeats 4000000 in
theorem tbX12_readLine_J127 (d n : Nat) (I : Nat → Nat → Int32) (J : Nat → Nat → Int64) (rv sp rr w nw : Nat) (out : (Nat → Nat → Int32) × (Nat → Nat → Int64)) (e : fX12_readLine_J127 n I J = some out) : mm_T none (d + 5) 248 (127, [some (.ref 62)], []) (107, I, J, mm_rf rv sp rr w nw) (fun v h => v = none ∧ h = (107, out.1, out.2, mm_rf rv sp rr w nw)) := by
  unfold fX12_readLine_J127 at e
  refine mm_T.seg (f' := (131, [some (.ref 62)], [(.long 1751474548), (.ref 62)])) (h' := (107, I, J, mm_rf rv sp rr w nw)) 2 rfl ?_
  refine mm_T.call (t := 216) (as := [(.ref 62), (.long 1751474548)]) (f' := (134, [some (.ref 62)], [])) rfl (tX12_isWord (d + 4) 1751474548 I J rv sp rr w nw _ rfl) (fun v h hq => ?_)
  obtain ⟨rfl, rfl⟩ := hq
  refine mm_T.br (c := (fX12_isWord 1751474548 I J) = 0) (a := ((151, [some (.ref 62)], []), (107, I, J, mm_rf rv sp rr w nw))) (b := ((137, [some (.ref 62)], []), (107, I, J, mm_rf rv sp rr w nw))) rfl (fun h401 => ?_) (fun h401 => ?_)
  · rw [if_pos h401] at e
    refine mm_T.mask [true] ?_
    exact tbX12_readLine_J151 d n I J rv sp rr w nw out e
  · rw [if_neg h401] at e
    refine mm_T.seg (f' := (141, [some (.ref 62)], [(.int (I 62 24))])) (h' := (107, I, J, mm_rf rv sp rr w nw)) 2 rfl ?_
    refine mm_T.br (c := (I 62 24) = 0) (a := ((144, [some (.ref 62)], []), (107, I, J, mm_rf rv sp rr w nw))) (b := ((151, [some (.ref 62)], []), (107, I, J, mm_rf rv sp rr w nw))) rfl (fun h416 => ?_) (fun h416 => ?_)
    · rw [if_pos h416] at e
      refine mm_T.seg (f' := (145, [some (.ref 62)], [(.ref 62)])) (h' := (107, I, J, mm_rf rv sp rr w nw)) 1 rfl ?_
      obtain ⟨o417, eo417, e⟩ := mm_bind e
      refine mm_T.call (t := 235) (as := [(.ref 62)]) (f' := (148, [some (.ref 62)], [])) rfl (tX12_formula (d + 0) n I J rv sp rr w nw o417 eo417) (fun v h hq => ?_)
      obtain ⟨rfl, rfl⟩ := hq
      refine mm_T.seg (f' := (235, [some (.ref 62)], [])) (h' := (107, o417.1, o417.2, mm_rf rv sp rr w nw)) 1 rfl ?_
      refine mm_T.mask [true] ?_
      exact tbX12_readLine_J235 d n o417.1 o417.2 rv sp rr w nw out e
    · rw [if_neg h416] at e
      refine mm_T.mask [true] ?_
      exact tbX12_readLine_J151 d n I J rv sp rr w nw out e
set_option maxRecDepth 100000 in
set_option maxHeartbeats 4000000 in
theorem tbX12_readLine_J101 (d n : Nat) (I : Nat → Nat → Int32) (J : Nat → Nat → Int64) (rv sp rr w nw : Nat) (out : (Nat → Nat → Int32) × (Nat → Nat → Int64)) (e : fX12_readLine_J101 n I J = some out) : mm_T none (d + 5) 248 (101, [some (.ref 62)], []) (107, I, J, mm_rf rv sp rr w nw) (fun v h => v = none ∧ h = (107, out.1, out.2, mm_rf rv sp rr w nw)) := by
  unfold fX12_readLine_J101 at e
  refine mm_T.seg (f' := (105, [some (.ref 62)], [(.long 1819238756), (.ref 62)])) (h' := (107, I, J, mm_rf rv sp rr w nw)) 2 rfl ?_
  refine mm_T.call (t := 216) (as := [(.ref 62), (.long 1819238756)]) (f' := (108, [some (.ref 62)], [])) rfl (tX12_isWord (d + 4) 1819238756 I J rv sp rr w nw _ rfl) (fun v h hq => ?_)
  obtain ⟨rfl, rfl⟩ := hq
  refine mm_T.br (c := (fX12_isWord 1819238756 I J) = 0) (a := ((127, [some (.ref 62)], []), (107, I, J, mm_rf rv sp rr w nw))) (b := ((111, [some (.ref 62)], []), (107, I, J, mm_rf rv sp rr w nw))) rfl (fun h400 => ?_) (fun h400 => ?_)
  · rw [if_pos h400] at e
    refine mm_T.mask [true] ?_
    exact tbX12_readLine_J127 d n I J rv sp rr w nw out e
  · rw [if_neg h400] at e
    refine mm_T.seg (f' := (117, [some (.ref 62)], [(.int 7), (.int (I 62 43))])) (h' := (107, I, J, mm_rf rv sp rr w nw)) 3 rfl ?_
    refine mm_T.br (c := (I 62 43) < 7) (a := ((120, [some (.ref 62)], []), (107, I, J, mm_rf rv sp rr w nw))) (b := ((127, [some (.ref 62)], []), (107, I, J, mm_rf rv sp rr w nw))) rfl (fun h418 => ?_) (fun h418 => ?_)
    · rw [if_pos h418] at e
      refine mm_T.seg (f' := (121, [some (.ref 62)], [(.ref 62)])) (h' := (107, I, J, mm_rf rv sp rr w nw)) 1 rfl ?_
      obtain ⟨o419, eo419, e⟩ := mm_bind e
      refine mm_T.call (t := 247) (as := [(.ref 62)]) (f' := (124, [some (.ref 62)], [])) rfl (tX12_readLoad (d + 0) n I J rv sp rr w nw o419 eo419) (fun v h hq => ?_)
      obtain ⟨rfl, rfl⟩ := hq
      refine mm_T.seg (f' := (235, [some (.ref 62)], [])) (h' := (107, o419.1, o419.2, mm_rf rv sp rr w nw)) 1 rfl ?_
      refine mm_T.mask [true] ?_
      exact tbX12_readLine_J235 d n o419.1 o419.2 rv sp rr w nw out e
    · rw [if_neg h418] at e
      refine mm_T.mask [true] ?_
      exact tbX12_readLine_J127 d n I J rv sp rr w nw out e
set_option maxRecDepth 100000 in
set_option maxHeartbeats 4000000 in
theorem tbX12_readLine_J76 (d n : Nat) (I : Nat → Nat → Int32) (J : Nat → Nat → Int64) (rv sp rr w nw : Nat) (out : (Nat → Nat → Int32) × (Nat → Nat → Int64)) (e : fX12_readLine_J76 n I J = some out) : mm_T none (d + 5) 248 (76, [some (.ref 62)], []) (107, I, J, mm_rf rv sp rr w nw) (fun v h => v = none ∧ h = (107, out.1, out.2, mm_rf rv sp rr w nw)) := by
  unfold fX12_readLine_J76 at e
  refine mm_T.seg (f' := (80, [some (.ref 62)], [(.long 422775452260), (.ref 62)])) (h' := (107, I, J, mm_rf rv sp rr w nw)) 2 rfl ?_
  refine mm_T.call (t := 216) (as := [(.ref 62), (.long 422775452260)]) (f' := (83, [some (.ref 62)], [])) rfl (tX12_isWord (d + 4) 422775452260 I J rv sp rr w nw _ rfl) (fun v h hq => ?_)
  obtain ⟨rfl, rfl⟩ := hq
  refine mm_T.br (c := (fX12_isWord 422775452260 I J) = 0) (a := ((101, [some (.ref 62)], []), (107, I, J, mm_rf rv sp rr w nw))) (b := ((86, [some (.ref 62)], []), (107, I, J, mm_rf rv sp rr w nw))) rfl (fun h399 => ?_) (fun h399 => ?_)
  · rw [if_pos h399] at e
    refine mm_T.mask [true] ?_
    exact tbX12_readLine_J101 d n I J rv sp rr w nw out e
  · rw [if_neg h399] at e
    refine mm_T.seg (f' := (91, [some (.ref 62)], [(.int 4), (.int (I 62 42))])) (h' := (107, I, J, mm_rf rv sp rr w nw)) 3 rfl ?_
    refine mm_T.br (c := (I 62 42) < 4) (a := ((94, [some (.ref 62)], []), (107, I, J, mm_rf rv sp rr w nw))) (b := ((101, [some (.ref 62)], []), (107, I, J, mm_rf rv sp rr w nw))) rfl (fun h420 => ?_) (fun h420 => ?_)
    · rw [if_pos h420] at e
      refine mm_T.seg (f' := (95, [some (.ref 62)], [(.ref 62)])) (h' := (107, I, J, mm_rf rv sp rr w nw)) 1 rfl ?_
      obtain ⟨o421, eo421, e⟩ := mm_bind e
      refine mm_T.call (t := 246) (as := [(.ref 62)]) (f' := (98, [some (.ref 62)], [])) rfl (tX12_readBoard (d + 0) n I J rv sp rr w nw o421 eo421) (fun v h hq => ?_)
      obtain ⟨rfl, rfl⟩ := hq
      refine mm_T.seg (f' := (235, [some (.ref 62)], [])) (h' := (107, o421.1, o421.2, mm_rf rv sp rr w nw)) 1 rfl ?_
      refine mm_T.mask [true] ?_
      exact tbX12_readLine_J235 d n o421.1 o421.2 rv sp rr w nw out e
    · rw [if_neg h420] at e
      refine mm_T.mask [true] ?_
      exact tbX12_readLine_J101 d n I J rv sp rr w nw out e
set_option maxRecDepth 100000 in
set_option maxHeartbeats 4000000 in
theorem tbX12_readLine_J50 (d n : Nat) (I : Nat → Nat → Int32) (J : Nat → Nat → Int64) (rv sp rr w nw : Nat) (out : (Nat → Nat → Int32) × (Nat → Nat → Int64)) (e : fX12_readLine_J50 n I J = some out) : mm_T none (d + 5) 248 (50, [some (.ref 62)], []) (107, I, J, mm_rf rv sp rr w nw) (fun v h => v = none ∧ h = (107, out.1, out.2, mm_rf rv sp rr w nw)) := by
  unfold fX12_readLine_J50 at e
  refine mm_T.seg (f' := (54, [some (.ref 62)], [(.long 1769107310), (.ref 62)])) (h' := (107, I, J, mm_rf rv sp rr w nw)) 2 rfl ?_
  refine mm_T.call (t := 216) (as := [(.ref 62), (.long 1769107310)]) (f' := (57, [some (.ref 62)], [])) rfl (tX12_isWord (d + 4) 1769107310 I J rv sp rr w nw _ rfl) (fun v h hq => ?_)
  obtain ⟨rfl, rfl⟩ := hq
  refine mm_T.br (c := (fX12_isWord 1769107310 I J) = 0) (a := ((76, [some (.ref 62)], []), (107, I, J, mm_rf rv sp rr w nw))) (b := ((60, [some (.ref 62)], []), (107, I, J, mm_rf rv sp rr w nw))) rfl (fun h398 => ?_) (fun h398 => ?_)
  · rw [if_pos h398] at e
    refine mm_T.mask [true] ?_
    exact tbX12_readLine_J76 d n I J rv sp rr w nw out e
  · rw [if_neg h398] at e
    refine mm_T.seg (f' := (66, [some (.ref 62)], [(.int 6), (.int (I 62 41))])) (h' := (107, I, J, mm_rf rv sp rr w nw)) 3 rfl ?_
    refine mm_T.br (c := (I 62 41) < 6) (a := ((69, [some (.ref 62)], []), (107, I, J, mm_rf rv sp rr w nw))) (b := ((76, [some (.ref 62)], []), (107, I, J, mm_rf rv sp rr w nw))) rfl (fun h422 => ?_) (fun h422 => ?_)
    · rw [if_pos h422] at e
      refine mm_T.seg (f' := (70, [some (.ref 62)], [(.ref 62)])) (h' := (107, I, J, mm_rf rv sp rr w nw)) 1 rfl ?_
      obtain ⟨o423, eo423, e⟩ := mm_bind e
      refine mm_T.call (t := 245) (as := [(.ref 62)]) (f' := (73, [some (.ref 62)], [])) rfl (tX12_readIron (d + 0) n I J rv sp rr w nw o423 eo423) (fun v h hq => ?_)
      obtain ⟨rfl, rfl⟩ := hq
      refine mm_T.seg (f' := (235, [some (.ref 62)], [])) (h' := (107, o423.1, o423.2, mm_rf rv sp rr w nw)) 1 rfl ?_
      refine mm_T.mask [true] ?_
      exact tbX12_readLine_J235 d n o423.1 o423.2 rv sp rr w nw out e
    · rw [if_neg h422] at e
      refine mm_T.mask [true] ?_
      exact tbX12_readLine_J76 d n I J rv sp rr w nw out e
set_option maxRecDepth 100000 in
set_option maxHeartbeats 4000000 in
theorem tbX12_readLine_J24 (d n : Nat) (I : Nat → Nat → Int32) (J : Nat → Nat → Int64) (rv sp rr w nw : Nat) (out : (Nat → Nat → Int32) × (Nat → Nat → Int64)) (e : fX12_readLine_J24 n I J = some out) : mm_T none (d + 5) 248 (24, [some (.ref 62)], []) (107, I, J, mm_rf rv sp rr w nw) (fun v h => v = none ∧ h = (107, out.1, out.2, mm_rf rv sp rr w nw)) := by
  unfold fX12_readLine_J24 at e
  refine mm_T.seg (f' := (28, [some (.ref 62)], [(.long 27995157100326516), (.ref 62)])) (h' := (107, I, J, mm_rf rv sp rr w nw)) 2 rfl ?_
  refine mm_T.call (t := 216) (as := [(.ref 62), (.long 27995157100326516)]) (f' := (31, [some (.ref 62)], [])) rfl (tX12_isWord (d + 4) 27995157100326516 I J rv sp rr w nw _ rfl) (fun v h hq => ?_)
  obtain ⟨rfl, rfl⟩ := hq
  refine mm_T.br (c := (fX12_isWord 27995157100326516 I J) = 0) (a := ((50, [some (.ref 62)], []), (107, I, J, mm_rf rv sp rr w nw))) (b := ((34, [some (.ref 62)], []), (107, I, J, mm_rf rv sp rr w nw))) rfl (fun h397 => ?_) (fun h397 => ?_)
  · rw [if_pos h397] at e
    refine mm_T.mask [true] ?_
    exact tbX12_readLine_J50 d n I J rv sp rr w nw out e
  · rw [if_neg h397] at e
    refine mm_T.seg (f' := (40, [some (.ref 62)], [(.int 16), (.int (I 62 40))])) (h' := (107, I, J, mm_rf rv sp rr w nw)) 3 rfl ?_
    refine mm_T.br (c := (I 62 40) < 16) (a := ((43, [some (.ref 62)], []), (107, I, J, mm_rf rv sp rr w nw))) (b := ((50, [some (.ref 62)], []), (107, I, J, mm_rf rv sp rr w nw))) rfl (fun h424 => ?_) (fun h424 => ?_)
    · rw [if_pos h424] at e
      refine mm_T.seg (f' := (44, [some (.ref 62)], [(.ref 62)])) (h' := (107, I, J, mm_rf rv sp rr w nw)) 1 rfl ?_
      obtain ⟨o425, eo425, e⟩ := mm_bind e
      refine mm_T.call (t := 244) (as := [(.ref 62)]) (f' := (47, [some (.ref 62)], [])) rfl (tX12_readCurrent (d + 0) n I J rv sp rr w nw o425 eo425) (fun v h hq => ?_)
      obtain ⟨rfl, rfl⟩ := hq
      refine mm_T.seg (f' := (235, [some (.ref 62)], [])) (h' := (107, o425.1, o425.2, mm_rf rv sp rr w nw)) 1 rfl ?_
      refine mm_T.mask [true] ?_
      exact tbX12_readLine_J235 d n o425.1 o425.2 rv sp rr w nw out e
    · rw [if_neg h424] at e
      refine mm_T.mask [true] ?_
      exact tbX12_readLine_J50 d n I J rv sp rr w nw out e
set_option maxRecDepth 100000 in
set_option maxHeartbeats 4000000 in
theorem tX12_readLine (d n : Nat) (I : Nat → Nat → Int32) (J : Nat → Nat → Int64) (rv sp rr w nw : Nat) (out : (Nat → Nat → Int32) × (Nat → Nat → Int64)) (e : fX12_readLine n I J = some out) : mm_T none (d + 5) 248 (mm_ent 248 [(.ref 62)]) (107, I, J, mm_rf rv sp rr w nw) (fun v h => v = none ∧ h = (107, out.1, out.2, mm_rf rv sp rr w nw)) := by
  unfold fX12_readLine at e
  refine mm_T.seg (f' := (4, [some (.ref 62)], [(.long 512736126322), (.ref 62)])) (h' := (107, I, J, mm_rf rv sp rr w nw)) 2 rfl ?_
  refine mm_T.call (t := 216) (as := [(.ref 62), (.long 512736126322)]) (f' := (7, [some (.ref 62)], [])) rfl (tX12_isWord (d + 4) 512736126322 I J rv sp rr w nw _ rfl) (fun v h hq => ?_)
  obtain ⟨rfl, rfl⟩ := hq
  refine mm_T.br (c := (fX12_isWord 512736126322 I J) = 0) (a := ((24, [some (.ref 62)], []), (107, I, J, mm_rf rv sp rr w nw))) (b := ((10, [some (.ref 62)], []), (107, I, J, mm_rf rv sp rr w nw))) rfl (fun h396 => ?_) (fun h396 => ?_)
  · rw [if_pos h396] at e
    refine mm_T.mask [true] ?_
    exact tbX12_readLine_J24 d n I J rv sp rr w nw out e
  · rw [if_neg h396] at e
    refine mm_T.seg (f' := (14, [some (.ref 62)], [(.int (I 62 51))])) (h' := (107, I, J, mm_rf rv sp rr w nw)) 2 rfl ?_
    refine mm_T.br (c := (I 62 51) = 0) (a := ((17, [some (.ref 62)], []), (107, I, J, mm_rf rv sp rr w nw))) (b := ((24, [some (.ref 62)], []), (107, I, J, mm_rf rv sp rr w nw))) rfl (fun h426 => ?_) (fun h426 => ?_)
    · rw [if_pos h426] at e
      refine mm_T.seg (f' := (18, [some (.ref 62)], [(.ref 62)])) (h' := (107, I, J, mm_rf rv sp rr w nw)) 1 rfl ?_
      obtain ⟨o427, eo427, e⟩ := mm_bind e
      refine mm_T.call (t := 242) (as := [(.ref 62)]) (f' := (21, [some (.ref 62)], [])) rfl (tX12_readWater (d + 0) n I J rv sp rr w nw o427 eo427) (fun v h hq => ?_)
      obtain ⟨rfl, rfl⟩ := hq
      refine mm_T.seg (f' := (235, [some (.ref 62)], [])) (h' := (107, o427.1, o427.2, mm_rf rv sp rr w nw)) 1 rfl ?_
      refine mm_T.mask [true] ?_
      exact tbX12_readLine_J235 d n o427.1 o427.2 rv sp rr w nw out e
    · rw [if_neg h426] at e
      refine mm_T.mask [true] ?_
      exact tbX12_readLine_J24 d n I J rv sp rr w nw out e
def fX12_readAll_L97 (n : Nat) (y1 : Int32) (I : Nat → Nat → Int32) : Option ((Nat → Nat → Int32)) := match n with
  | 0 => none
  | n + 1 => (if y1 < 56 then (if y1 < 0 ∨ 56 ≤ y1.toNatClampNeg then none else (if y1 < 0 ∨ 56 ≤ y1.toNatClampNeg then none else fX12_readAll_L97 n (y1 + 1) (mm_up (mm_up I 72 y1.toNatClampNeg (-1)) 73 y1.toNatClampNeg (-1)))) else some I)
def fX12_readAll_L127 (n : Nat) (I : Nat → Nat → Int32) (J : Nat → Nat → Int64) : Option ((Nat → Nat → Int32) × (Nat → Nat → Int64)) := match n with
  | 0 => none
  | n + 1 => (if (I 62 2) = 0 then (if (I 62 6) = 0 then some (I, J) else (fX12_readLine n I J).bind fun o435 => fX12_readAll_L127 n o435.1 o435.2) else some (I, J))
def fX12_readAll (n : Nat) (I : Nat → Nat → Int32) (J : Nat → Nat → Int64) : Option ((Nat → Nat → Int32) × (Nat → Nat → Int64)) := (fX12_readAll_L97 n 0 (mm_up (mm_up (mm_up (mm_up (mm_up (mm_up (mm_up (mm_up (mm_up (mm_up (mm_up (mm_up (mm_up (mm_up (mm_up (mm_up (mm_up (mm_up I 62 5 (I 62 1)) 62 1 0) 62 4 0) 62 2 0) 62 3 (-1)) 62 38 8) 62 39 6) 62 40 0) 62 41 0) 62 42 0) 62 43 0) 62 44 0) 62 45 0) 62 51 0) 62 52 0) 62 53 0) 62 24 0) 62 20 0)).bind fun o431 => (fX12_token n o431 J).bind fun o432 => (fX12_readAll_L127 n o432.1 o432.2).bind fun o436 => some (o436.1, o436.2)
set_option maxRecDepth 100000 in
set_option maxHeartbeats 4000000 in
theorem tlX12_readAll_L97 (d : Nat) (Q : Option Value → mm_H → Prop) : ∀ (n : Nat) (y1 : Int32) (I : Nat → Nat → Int32) (J : Nat → Nat → Int64) (rv sp rr w nw : Nat), ∀ (out : (Nat → Nat → Int32)), fX12_readAll_L97 n y1 I = some out → mm_T none (d + 6) 249 (123, [some (.ref 62), none], []) (107, out, J, mm_rf rv sp rr w nw) Q → mm_T none (d + 6) 249 (97, [some (.ref 62), some (.int y1)], []) (107, I, J, mm_rf rv sp rr w nw) Q := by
  intro n
  induction n with
  | zero =>
    intro y1 I J rv sp rr w nw out e k
    rw [fX12_readAll_L97] at e; cases e
  | succ n ih =>
    intro y1 I J rv sp rr w nw out e k
    rw [fX12_readAll_L97] at e
    refine mm_T.seg (f' := (100, [some (.ref 62), some (.int y1)], [(.int 56), (.int y1)])) (h' := (107, I, J, mm_rf rv sp rr w nw)) 2 rfl ?_
    refine mm_T.br (c := y1 < 56) (a := ((103, [some (.ref 62), some (.int y1)], []), (107, I, J, mm_rf rv sp rr w nw))) (b := ((123, [some (.ref 62), some (.int y1)], []), (107, I, J, mm_rf rv sp rr w nw))) rfl (fun h428 => ?_) (fun h428 => ?_)
    · rw [if_pos h428] at e
      refine mm_T.seg (f' := (109, [some (.ref 62), some (.int y1)], [(.int (-1)), (.int y1), (.ref 72)])) (h' := (107, I, J, mm_rf rv sp rr w nw)) 4 rfl ?_
      by_cases h429 : y1 < 0 ∨ 56 ≤ y1.toNatClampNeg
      · rw [if_pos h429] at e; cases e
      rw [if_neg h429] at e
      refine mm_T.guard (y := ((110, [some (.ref 62), some (.int y1)], []), (107, (mm_up I 72 y1.toNatClampNeg (-1)), J, mm_rf rv sp rr w nw))) rfl h429 ?_
      refine mm_T.seg (f' := (116, [some (.ref 62), some (.int y1)], [(.int (-1)), (.int y1), (.ref 73)])) (h' := (107, (mm_up I 72 y1.toNatClampNeg (-1)), J, mm_rf rv sp rr w nw)) 4 rfl ?_
      by_cases h430 : y1 < 0 ∨ 56 ≤ y1.toNatClampNeg
      · rw [if_pos h430] at e; cases e
      rw [if_neg h430] at e
      refine mm_T.guard (y := ((117, [some (.ref 62), some (.int y1)], []), (107, (mm_up (mm_up I 72 y1.toNatClampNeg (-1)) 73 y1.toNatClampNeg (-1)), J, mm_rf rv sp rr w nw))) rfl h430 ?_
      refine mm_T.seg (f' := (97, [some (.ref 62), some (.int (y1 + 1))], [])) (h' := (107, (mm_up (mm_up I 72 y1.toNatClampNeg (-1)) 73 y1.toNatClampNeg (-1)), J, mm_rf rv sp rr w nw)) 2 rfl ?_
      refine mm_T.mask [true, true] ?_
      exact ih (y1 + 1) (mm_up (mm_up I 72 y1.toNatClampNeg (-1)) 73 y1.toNatClampNeg (-1)) J rv sp rr w nw out e k
    · rw [if_neg h428] at e
      cases e
      refine mm_T.mask [true, false] ?_
      exact k
set_option maxRecDepth 100000 in
set_option maxHeartbeats 4000000 in
theorem tlX12_readAll_L127 (d : Nat) (Q : Option Value → mm_H → Prop) : ∀ (n : Nat) (I : Nat → Nat → Int32) (J : Nat → Nat → Int64) (rv sp rr w nw : Nat), ∀ (out : (Nat → Nat → Int32) × (Nat → Nat → Int64)), fX12_readAll_L127 n I J = some out → mm_T none (d + 6) 249 (148, [none, none], []) (107, out.1, out.2, mm_rf rv sp rr w nw) Q → mm_T none (d + 6) 249 (127, [some (.ref 62), none], []) (107, I, J, mm_rf rv sp rr w nw) Q := by
  intro n
  induction n with
  | zero =>
    intro I J rv sp rr w nw out e k
    rw [fX12_readAll_L127] at e; cases e
  | succ n ih =>
    intro I J rv sp rr w nw out e k
    rw [fX12_readAll_L127] at e
    refine mm_T.seg (f' := (131, [some (.ref 62), none], [(.int (I 62 2))])) (h' := (107, I, J, mm_rf rv sp rr w nw)) 2 rfl ?_
    refine mm_T.br (c := (I 62 2) = 0) (a := ((134, [some (.ref 62), none], []), (107, I, J, mm_rf rv sp rr w nw))) (b := ((148, [some (.ref 62), none], []), (107, I, J, mm_rf rv sp rr w nw))) rfl (fun h433 => ?_) (fun h433 => ?_)
    · rw [if_pos h433] at e
      refine mm_T.seg (f' := (138, [some (.ref 62), none], [(.int (I 62 6))])) (h' := (107, I, J, mm_rf rv sp rr w nw)) 2 rfl ?_
      refine mm_T.br (c := (I 62 6) = 0) (a := ((148, [some (.ref 62), none], []), (107, I, J, mm_rf rv sp rr w nw))) (b := ((141, [some (.ref 62), none], []), (107, I, J, mm_rf rv sp rr w nw))) rfl (fun h434 => ?_) (fun h434 => ?_)
      · rw [if_pos h434] at e
        cases e
        refine mm_T.mask [false, false] ?_
        exact k
      · rw [if_neg h434] at e
        refine mm_T.seg (f' := (142, [some (.ref 62), none], [(.ref 62)])) (h' := (107, I, J, mm_rf rv sp rr w nw)) 1 rfl ?_
        obtain ⟨o435, eo435, e⟩ := mm_bind e
        refine mm_T.call (t := 248) (as := [(.ref 62)]) (f' := (145, [some (.ref 62), none], [])) rfl (tX12_readLine (d + 0) n I J rv sp rr w nw o435 eo435) (fun v h hq => ?_)
        obtain ⟨rfl, rfl⟩ := hq
        refine mm_T.seg (f' := (127, [some (.ref 62), none], [])) (h' := (107, o435.1, o435.2, mm_rf rv sp rr w nw)) 1 rfl ?_
        refine mm_T.mask [true, false] ?_
        exact ih o435.1 o435.2 rv sp rr w nw out e k
    · rw [if_neg h433] at e
      cases e
      refine mm_T.mask [false, false] ?_
      exact k
set_option maxRecDepth 100000 in
set_option maxHeartbeats 4000000 in
theorem tX12_readAll (d n : Nat) (I : Nat → Nat → Int32) (J : Nat → Nat → Int64) (rv sp rr w nw : Nat) (out : (Nat → Nat → Int32) × (Nat → Nat → Int64)) (e : fX12_readAll n I J = some out) : mm_T none (d + 6) 249 (mm_ent 249 [(.ref 62)]) (107, I, J, mm_rf rv sp rr w nw) (fun v h => v = none ∧ h = (107, out.1, out.2, mm_rf rv sp rr w nw)) := by
  unfold fX12_readAll at e
  refine mm_T.seg (f' := (97, [some (.ref 62), some (.int 0)], [])) (h' := (107, (mm_up (mm_up (mm_up (mm_up (mm_up (mm_up (mm_up (mm_up (mm_up (mm_up (mm_up (mm_up (mm_up (mm_up (mm_up (mm_up (mm_up (mm_up I 62 5 (I 62 1)) 62 1 0) 62 4 0) 62 2 0) 62 3 (-1)) 62 38 8) 62 39 6) 62 40 0) 62 41 0) 62 42 0) 62 43 0) 62 44 0) 62 45 0) 62 51 0) 62 52 0) 62 53 0) 62 24 0) 62 20 0), J, mm_rf rv sp rr w nw)) 57 rfl ?_
  refine mm_T.mask [true, true] ?_
  obtain ⟨o431, eo431, e⟩ := mm_bind e
  refine tlX12_readAll_L97 d _ n 0 (mm_up (mm_up (mm_up (mm_up (mm_up (mm_up (mm_up (mm_up (mm_up (mm_up (mm_up (mm_up (mm_up (mm_up (mm_up (mm_up (mm_up (mm_up I 62 5 (I 62 1)) 62 1 0) 62 4 0) 62 2 0) 62 3 (-1)) 62 38 8) 62 39 6) 62 40 0) 62 41 0) 62 42 0) 62 43 0) 62 44 0) 62 45 0) 62 51 0) 62 52 0) 62 53 0) 62 24 0) 62 20 0) J rv sp rr w nw o431 eo431 ?_
  refine mm_T.seg (f' := (124, [some (.ref 62), none], [(.ref 62)])) (h' := (107, o431, J, mm_rf rv sp rr w nw)) 1 rfl ?_
  obtain ⟨o432, eo432, e⟩ := mm_bind e
  refine mm_T.call (t := 214) (as := [(.ref 62)]) (f' := (127, [some (.ref 62), none], [])) rfl (tX12_token (d + 4) n o431 J rv sp rr w nw o432 eo432) (fun v h hq => ?_)
  obtain ⟨rfl, rfl⟩ := hq
  refine mm_T.mask [true, false] ?_
  obtain ⟨o436, eo436, e⟩ := mm_bind e
  refine tlX12_readAll_L127 d _ n o432.1 o432.2 rv sp rr w nw o436 eo436 ?_
  cases e
  exact mm_T.ret rfl ⟨rfl, rfl⟩
