def fX12_hotter (n : Nat) (x1 : Int32) (I : Nat → Nat → Int32) : Option (Int32 × (Nat → Nat → Int32)) := (fX12_fill n I).bind fun o561 => (fX12_isBoard x1 o561).bind fun o562 => (if o562 = 0 then some ((-1), o561) else (fX12_hotterOf n x1 o561).bind fun o564 => some (o564.1, o564.2))
set_option maxRecDepth 100000 in
set_option maxHeartbeats 4000000 in
theorem tX12_hotter (d n : Nat) (x1 : Int32) (I : Nat → Nat → Int32) (J : Nat → Nat → Int64) (rv sp rr w nw : Nat) (out : Int32 × (Nat → Nat → Int32)) (e : fX12_hotter n x1 I = some out) : mm_T none (d + 3) 266 (mm_ent 266 [(.ref 62), (.int x1)]) (107, I, J, mm_rf rv sp rr w nw) (fun v h => v = some (.int out.1) ∧ h = (107, out.2, J, mm_rf rv sp rr w nw)) := by
  unfold fX12_hotter at e
  refine mm_T.seg (f' := (1, [some (.ref 62), some (.int x1)], [(.ref 62)])) (h' := (107, I, J, mm_rf rv sp rr w nw)) 1 rfl ?_
  obtain ⟨o561, eo561, e⟩ := mm_bind e
  refine mm_T.call (t := 256) (as := [(.ref 62)]) (f' := (4, [some (.ref 62), some (.int x1)], [])) rfl (tX12_fill (d + 2) n I J rv sp rr w nw o561 eo561) (fun v h hq => ?_)
  obtain ⟨rfl, rfl⟩ := hq
  refine mm_T.seg (f' := (6, [some (.ref 62), some (.int x1)], [(.int x1), (.ref 62)])) (h' := (107, o561, J, mm_rf rv sp rr w nw)) 2 rfl ?_
  obtain ⟨o562, eo562, e⟩ := mm_bind e
  refine mm_T.call (t := 253) (as := [(.ref 62), (.int x1)]) (f' := (9, [some (.ref 62), some (.int x1)], [])) rfl (tX12_isBoard (d + 1) x1 o561 J rv sp rr w nw o562 eo562) (fun v h hq => ?_)
  obtain ⟨rfl, rfl⟩ := hq
  refine mm_T.br (c := o562 = 0) (a := ((20, [some (.ref 62), some (.int x1)], []), (107, o561, J, mm_rf rv sp rr w nw))) (b := ((12, [some (.ref 62), some (.int x1)], []), (107, o561, J, mm_rf rv sp rr w nw))) rfl (fun h563 => ?_) (fun h563 => ?_)
  · rw [if_pos h563] at e
    refine mm_T.seg (f' := (21, [some (.ref 62), some (.int x1)], [(.int (-1))])) (h' := (107, o561, J, mm_rf rv sp rr w nw)) 1 rfl ?_
    cases e
    exact mm_T.ret rfl ⟨rfl, rfl⟩
  · rw [if_neg h563] at e
    refine mm_T.seg (f' := (14, [some (.ref 62), some (.int x1)], [(.int x1), (.ref 62)])) (h' := (107, o561, J, mm_rf rv sp rr w nw)) 2 rfl ?_
    obtain ⟨o564, eo564, e⟩ := mm_bind e
    refine mm_T.call (t := 241) (as := [(.ref 62), (.int x1)]) (f' := (17, [some (.ref 62), some (.int x1)], [])) rfl (tX12_hotterOf (d + 0) n x1 o561 J rv sp rr w nw o564 eo564) (fun v h hq => ?_)
    obtain ⟨rfl, rfl⟩ := hq
    refine mm_T.seg (f' := (21, [some (.ref 62), some (.int x1)], [(.int o564.1)])) (h' := (107, o564.2, J, mm_rf rv sp rr w nw)) 1 rfl ?_
    cases e
    exact mm_T.ret rfl ⟨rfl, rfl⟩
def fX12_act_L11 (n : Nat) (y1 : Int32) (I : Nat → Nat → Int32) : Option ((Nat → Nat → Int32)) := match n with
  | 0 => none
  | n + 1 => (if y1 < 1092 then (if (28 + y1) < 0 ∨ 1120 ≤ (28 + y1).toNatClampNeg then none else (if y1 < 0 ∨ 1120 ≤ y1.toNatClampNeg then none else fX12_act_L11 n (y1 + 1) (mm_up I 86 y1.toNatClampNeg (I 86 (28 + y1).toNatClampNeg)))) else some I)
def fX12_act_L51 (n : Nat) (y1 : Int32) (I : Nat → Nat → Int32) : Option ((Nat → Nat → Int32)) := match n with
  | 0 => none
  | n + 1 => (if y1 < 28 then (if y1 < 0 ∨ 28 ≤ y1.toNatClampNeg then none else (if ((28 * (I 62 57)) + y1) < 0 ∨ 1120 ≤ ((28 * (I 62 57)) + y1).toNatClampNeg then none else fX12_act_L51 n (y1 + 1) (mm_up I 86 ((28 * (I 62 57)) + y1).toNatClampNeg (I 84 y1.toNatClampNeg)))) else some I)
def fX12_act (n : Nat) (I : Nat → Nat → Int32) : Option ((Nat → Nat → Int32)) := (if (I 62 57) = 40 then (fX12_act_L11 n 0 I).bind fun o569 => (fX12_act_L51 n 0 (mm_up o569 62 57 ((o569 62 57) - 1))).bind fun o573 => (fX12_fill n (mm_up (mm_up o573 62 57 ((o573 62 57) + 1)) 62 58 0)).bind fun o574 => some o574 else (fX12_act_L51 n 0 I).bind fun o575 => (fX12_fill n (mm_up (mm_up o575 62 57 ((o575 62 57) + 1)) 62 58 0)).bind fun o576 => some o576)
set_option maxRecDepth 100000 in
set_option maxHeartbeats 4000000 in
theorem tlX12_act_L11 (d : Nat) (Q : Option Value → mm_H → Prop) : ∀ (n : Nat) (y1 : Int32) (I : Nat → Nat → Int32) (J : Nat → Nat → Int64) (rv sp rr w nw : Nat), ∀ (out : (Nat → Nat → Int32)), fX12_act_L11 n y1 I = some out → mm_T none (d + 1) 267 (39, [some (.ref 62), none], []) (107, out, J, mm_rf rv sp rr w nw) Q → mm_T none (d + 1) 267 (11, [some (.ref 62), some (.int y1)], []) (107, I, J, mm_rf rv sp rr w nw) Q := by
  intro n
  induction n with
  | zero =>
    intro y1 I J rv sp rr w nw out e k
    rw [fX12_act_L11] at e; cases e
  | succ n ih =>
    intro y1 I J rv sp rr w nw out e k
    rw [fX12_act_L11] at e
    refine mm_T.seg (f' := (15, [some (.ref 62), some (.int y1)], [(.int 1092), (.int y1)])) (h' := (107, I, J, mm_rf rv sp rr w nw)) 2 rfl ?_
    refine mm_T.br (c := y1 < 1092) (a := ((18, [some (.ref 62), some (.int y1)], []), (107, I, J, mm_rf rv sp rr w nw))) (b := ((39, [some (.ref 62), some (.int y1)], []), (107, I, J, mm_rf rv sp rr w nw))) rfl (fun h566 => ?_) (fun h566 => ?_)
    · rw [if_pos h566] at e
      refine mm_T.seg (f' := (31, [some (.ref 62), some (.int y1)], [(.int (28 + y1)), (.ref 86), (.int y1), (.ref 86)])) (h' := (107, I, J, mm_rf rv sp rr w nw)) 8 rfl ?_
      by_cases h567 : (28 + y1) < 0 ∨ 1120 ≤ (28 + y1).toNatClampNeg
      · rw [if_pos h567] at e; cases e
      rw [if_neg h567] at e
      refine mm_T.guard (y := ((32, [some (.ref 62), some (.int y1)], [(.int (I 86 (28 + y1).toNatClampNeg)), (.int y1), (.ref 86)]), (107, I, J, mm_rf rv sp rr w nw))) rfl h567 ?_
      by_cases h568 : y1 < 0 ∨ 1120 ≤ y1.toNatClampNeg
      · rw [if_pos h568] at e; cases e
      rw [if_neg h568] at e
      refine mm_T.guard (y := ((33, [some (.ref 62), some (.int y1)], []), (107, (mm_up I 86 y1.toNatClampNeg (I 86 (28 + y1).toNatClampNeg)), J, mm_rf rv sp rr w nw))) rfl h568 ?_
      refine mm_T.seg (f' := (11, [some (.ref 62), some (.int (y1 + 1))], [])) (h' := (107, (mm_up I 86 y1.toNatClampNeg (I 86 (28 + y1).toNatClampNeg)), J, mm_rf rv sp rr w nw)) 2 rfl ?_
      refine mm_T.mask [true, true] ?_
      exact ih (y1 + 1) (mm_up I 86 y1.toNatClampNeg (I 86 (28 + y1).toNatClampNeg)) J rv sp rr w nw out e k
    · rw [if_neg h566] at e
      cases e
      refine mm_T.mask [true, false] ?_
      exact k
set_option maxRecDepth 100000 in
set_option maxHeartbeats 4000000 in
theorem tlX12_act_L51 (d : Nat) (Q : Option Value → mm_H → Prop) : ∀ (n : Nat) (y1 : Int32) (I : Nat → Nat → Int32) (J : Nat → Nat → Int64) (rv sp rr w nw : Nat), ∀ (out : (Nat → Nat → Int32)), fX12_act_L51 n y1 I = some out → mm_T none (d + 1) 267 (83, [some (.ref 62), none], []) (107, out, J, mm_rf rv sp rr w nw) Q → mm_T none (d + 1) 267 (51, [some (.ref 62), some (.int y1)], []) (107, I, J, mm_rf rv sp rr w nw) Q := by
  intro n
  induction n with
  | zero =>
    intro y1 I J rv sp rr w nw out e k
    rw [fX12_act_L51] at e; cases e
  | succ n ih =>
    intro y1 I J rv sp rr w nw out e k
    rw [fX12_act_L51] at e
    refine mm_T.seg (f' := (54, [some (.ref 62), some (.int y1)], [(.int 28), (.int y1)])) (h' := (107, I, J, mm_rf rv sp rr w nw)) 2 rfl ?_
    refine mm_T.br (c := y1 < 28) (a := ((57, [some (.ref 62), some (.int y1)], []), (107, I, J, mm_rf rv sp rr w nw))) (b := ((83, [some (.ref 62), some (.int y1)], []), (107, I, J, mm_rf rv sp rr w nw))) rfl (fun h570 => ?_) (fun h570 => ?_)
    · rw [if_pos h570] at e
      refine mm_T.seg (f' := (75, [some (.ref 62), some (.int y1)], [(.int y1), (.ref 84), (.int ((28 * (I 62 57)) + y1)), (.ref 86)])) (h' := (107, I, J, mm_rf rv sp rr w nw)) 11 rfl ?_
      by_cases h571 : y1 < 0 ∨ 28 ≤ y1.toNatClampNeg
      · rw [if_pos h571] at e; cases e
      rw [if_neg h571] at e
      refine mm_T.guard (y := ((76, [some (.ref 62), some (.int y1)], [(.int (I 84 y1.toNatClampNeg)), (.int ((28 * (I 62 57)) + y1)), (.ref 86)]), (107, I, J, mm_rf rv sp rr w nw))) rfl h571 ?_
      by_cases h572 : ((28 * (I 62 57)) + y1) < 0 ∨ 1120 ≤ ((28 * (I 62 57)) + y1).toNatClampNeg
      · rw [if_pos h572] at e; cases e
      rw [if_neg h572] at e
      refine mm_T.guard (y := ((77, [some (.ref 62), some (.int y1)], []), (107, (mm_up I 86 ((28 * (I 62 57)) + y1).toNatClampNeg (I 84 y1.toNatClampNeg)), J, mm_rf rv sp rr w nw))) rfl h572 ?_
      refine mm_T.seg (f' := (51, [some (.ref 62), some (.int (y1 + 1))], [])) (h' := (107, (mm_up I 86 ((28 * (I 62 57)) + y1).toNatClampNeg (I 84 y1.toNatClampNeg)), J, mm_rf rv sp rr w nw)) 2 rfl ?_
      refine mm_T.mask [true, true] ?_
      exact ih (y1 + 1) (mm_up I 86 ((28 * (I 62 57)) + y1).toNatClampNeg (I 84 y1.toNatClampNeg)) J rv sp rr w nw out e k
    · rw [if_neg h570] at e
      cases e
      refine mm_T.mask [true, false] ?_
      exact k
set_option maxRecDepth 100000 in
set_option maxHeartbeats 4000000 in
theorem tX12_act (d n : Nat) (I : Nat → Nat → Int32) (J : Nat → Nat → Int64) (rv sp rr w nw : Nat) (out : (Nat → Nat → Int32)) (e : fX12_act n I = some out) : mm_T none (d + 1) 267 (mm_ent 267 [(.ref 62)]) (107, I, J, mm_rf rv sp rr w nw) (fun v h => v = none ∧ h = (107, out, J, mm_rf rv sp rr w nw)) := by
  unfold fX12_act at e
  refine mm_T.seg (f' := (6, [some (.ref 62), none], [(.int 40), (.int (I 62 57))])) (h' := (107, I, J, mm_rf rv sp rr w nw)) 3 rfl ?_
  refine mm_T.br (c := (I 62 57) = 40) (a := ((9, [some (.ref 62), none], []), (107, I, J, mm_rf rv sp rr w nw))) (b := ((49, [some (.ref 62), none], []), (107, I, J, mm_rf rv sp rr w nw))) rfl (fun h565 => ?_) (fun h565 => ?_)
  · rw [if_pos h565] at e
    refine mm_T.seg (f' := (11, [some (.ref 62), some (.int 0)], [])) (h' := (107, I, J, mm_rf rv sp rr w nw)) 2 rfl ?_
    refine mm_T.mask [true, true] ?_
    obtain ⟨o569, eo569, e⟩ := mm_bind e
    refine tlX12_act_L11 d _ n 0 I J rv sp rr w nw o569 eo569 ?_
    refine mm_T.seg (f' := (51, [some (.ref 62), some (.int 0)], [])) (h' := (107, (mm_up o569 62 57 ((o569 62 57) - 1)), J, mm_rf rv sp rr w nw)) 8 rfl ?_
    refine mm_T.mask [true, true] ?_
    obtain ⟨o573, eo573, e⟩ := mm_bind e
    refine tlX12_act_L51 d _ n 0 (mm_up o569 62 57 ((o569 62 57) - 1)) J rv sp rr w nw o573 eo573 ?_
    refine mm_T.seg (f' := (99, [some (.ref 62), none], [(.ref 62)])) (h' := (107, (mm_up (mm_up o573 62 57 ((o573 62 57) + 1)) 62 58 0), J, mm_rf rv sp rr w nw)) 10 rfl ?_
    obtain ⟨o574, eo574, e⟩ := mm_bind e
    refine mm_T.call (t := 256) (as := [(.ref 62)]) (f' := (102, [some (.ref 62), none], [])) rfl (tX12_fill (d + 0) n (mm_up (mm_up o573 62 57 ((o573 62 57) + 1)) 62 58 0) J rv sp rr w nw o574 eo574) (fun v h hq => ?_)
    obtain ⟨rfl, rfl⟩ := hq
    cases e
    exact mm_T.ret rfl ⟨rfl, rfl⟩
  · rw [if_neg h565] at e
    refine mm_T.seg (f' := (51, [some (.ref 62), some (.int 0)], [])) (h' := (107, I, J, mm_rf rv sp rr w nw)) 2 rfl ?_
    refine mm_T.mask [true, true] ?_
    obtain ⟨o575, eo575, e⟩ := mm_bind e
    refine tlX12_act_L51 d _ n 0 I J rv sp rr w nw o575 eo575 ?_
    refine mm_T.seg (f' := (99, [some (.ref 62), none], [(.ref 62)])) (h' := (107, (mm_up (mm_up o575 62 57 ((o575 62 57) + 1)) 62 58 0), J, mm_rf rv sp rr w nw)) 10 rfl ?_
    obtain ⟨o576, eo576, e⟩ := mm_bind e
    refine mm_T.call (t := 256) (as := [(.ref 62)]) (f' := (102, [some (.ref 62), none], [])) rfl (tX12_fill (d + 0) n (mm_up (mm_up o575 62 57 ((o575 62 57) + 1)) 62 58 0) J rv sp rr w nw o576 eo576) (fun v h hq => ?_)
    obtain ⟨rfl, rfl⟩ := hq
    cases e
    exact mm_T.ret rfl ⟨rfl, rfl⟩
def fX12_exchange_L2 (n : Nat) (y1 : Int32) (y2 : Int32) (I : Nat → Nat → Int32) : Option ((Nat → Nat → Int32)) := match n with
  | 0 => none
  | n + 1 => (if y2 < 28 then (if (y1 + y2) < 0 ∨ 1120 ≤ (y1 + y2).toNatClampNeg then none else (if y2 < 0 ∨ 28 ≤ y2.toNatClampNeg then none else (if (y1 + y2) < 0 ∨ 1120 ≤ (y1 + y2).toNatClampNeg then none else (if y2 < 0 ∨ 28 ≤ y2.toNatClampNeg then none else fX12_exchange_L2 n y1 (y2 + 1) (mm_up (mm_up I 86 (y1 + y2).toNatClampNeg (I 84 y2.toNatClampNeg)) 84 y2.toNatClampNeg (I 86 (y1 + y2).toNatClampNeg)))))) else some I)
def fX12_exchange (n : Nat) (x1 : Int32) (I : Nat → Nat → Int32) : Option ((Nat → Nat → Int32)) := (fX12_exchange_L2 n x1 0 I).bind fun o582 => some o582
set_option maxRecDepth 100000 in
set_option maxHeartbeats 4000000 in
theorem tlX12_exchange_L2 (d : Nat) (Q : Option Value → mm_H → Prop) : ∀ (n : Nat) (y1 : Int32) (y2 : Int32) (I : Nat → Nat → Int32) (J : Nat → Nat → Int64) (rv sp rr w nw : Nat), ∀ (out : (Nat → Nat → Int32)), fX12_exchange_L2 n y1 y2 I = some out → mm_T none (d + 0) 268 (44, [none, none, none, none], []) (107, out, J, mm_rf rv sp rr w nw) Q → mm_T none (d + 0) 268 (2, [some (.ref 62), some (.int y1), some (.int y2), none], []) (107, I, J, mm_rf rv sp rr w nw) Q := by
  intro n
  induction n with
  | zero =>
    intro y1 y2 I J rv sp rr w nw out e k
    rw [fX12_exchange_L2] at e; cases e
  | succ n ih =>
    intro y1 y2 I J rv sp rr w nw out e k
    rw [fX12_exchange_L2] at e
    refine mm_T.seg (f' := (5, [some (.ref 62), some (.int y1), some (.int y2), none], [(.int 28), (.int y2)])) (h' := (107, I, J, mm_rf rv sp rr w nw)) 2 rfl ?_
    refine mm_T.br (c := y2 < 28) (a := ((8, [some (.ref 62), some (.int y1), some (.int y2), none], []), (107, I, J, mm_rf rv sp rr w nw))) (b := ((44, [some (.ref 62), some (.int y1), some (.int y2), none], []), (107, I, J, mm_rf rv sp rr w nw))) rfl (fun h577 => ?_) (fun h577 => ?_)
    · rw [if_pos h577] at e
      refine mm_T.seg (f' := (15, [some (.ref 62), some (.int y1), some (.int y2), none], [(.int (y1 + y2)), (.ref 86)])) (h' := (107, I, J, mm_rf rv sp rr w nw)) 5 rfl ?_
      by_cases h578 : (y1 + y2) < 0 ∨ 1120 ≤ (y1 + y2).toNatClampNeg
      · rw [if_pos h578] at e; cases e
      rw [if_neg h578] at e
      refine mm_T.guard (y := ((16, [some (.ref 62), some (.int y1), some (.int y2), none], [(.int (I 86 (y1 + y2).toNatClampNeg))]), (107, I, J, mm_rf rv sp rr w nw))) rfl h578 ?_
      refine mm_T.seg (f' := (29, [some (.ref 62), some (.int y1), some (.int y2), some (.int (I 86 (y1 + y2).toNatClampNeg))], [(.int y2), (.ref 84), (.int (y1 + y2)), (.ref 86)])) (h' := (107, I, J, mm_rf rv sp rr w nw)) 9 rfl ?_
      by_cases h579 : y2 < 0 ∨ 28 ≤ y2.toNatClampNeg
      · rw [if_pos h579] at e; cases e
      rw [if_neg h579] at e
      refine mm_T.guard (y := ((30, [some (.ref 62), some (.int y1), some (.int y2), some (.int (I 86 (y1 + y2).toNatClampNeg))], [(.int (I 84 y2.toNatClampNeg)), (.int (y1 + y2)), (.ref 86)]), (107, I, J, mm_rf rv sp rr w nw))) rfl h579 ?_
      by_cases h580 : (y1 + y2) < 0 ∨ 1120 ≤ (y1 + y2).toNatClampNeg
      · rw [if_pos h580] at e; cases e
      rw [if_neg h580] at e
      refine mm_T.guard (y := ((31, [some (.ref 62), some (.int y1), some (.int y2), some (.int (I 86 (y1 + y2).toNatClampNeg))], []), (107, (mm_up I 86 (y1 + y2).toNatClampNeg (I 84 y2.toNatClampNeg)), J, mm_rf rv sp rr w nw))) rfl h580 ?_
      refine mm_T.seg (f' := (37, [some (.ref 62), some (.int y1), some (.int y2), some (.int (I 86 (y1 + y2).toNatClampNeg))], [(.int (I 86 (y1 + y2).toNatClampNeg)), (.int y2), (.ref 84)])) (h' := (107, (mm_up I 86 (y1 + y2).toNatClampNeg (I 84 y2.toNatClampNeg)), J, mm_rf rv sp rr w nw)) 4 rfl ?_
      by_cases h581 : y2 < 0 ∨ 28 ≤ y2.toNatClampNeg
      · rw [if_pos h581] at e; cases e
      rw [if_neg h581] at e
      refine mm_T.guard (y := ((38, [some (.ref 62), some (.int y1), some (.int y2), some (.int (I 86 (y1 + y2).toNatClampNeg))], []), (107, (mm_up (mm_up I 86 (y1 + y2).toNatClampNeg (I 84 y2.toNatClampNeg)) 84 y2.toNatClampNeg (I 86 (y1 + y2).toNatClampNeg)), J, mm_rf rv sp rr w nw))) rfl h581 ?_
      refine mm_T.seg (f' := (2, [some (.ref 62), some (.int y1), some (.int (y2 + 1)), some (.int (I 86 (y1 + y2).toNatClampNeg))], [])) (h' := (107, (mm_up (mm_up I 86 (y1 + y2).toNatClampNeg (I 84 y2.toNatClampNeg)) 84 y2.toNatClampNeg (I 86 (y1 + y2).toNatClampNeg)), J, mm_rf rv sp rr w nw)) 2 rfl ?_
      refine mm_T.mask [true, true, true, false] ?_
      exact ih y1 (y2 + 1) (mm_up (mm_up I 86 (y1 + y2).toNatClampNeg (I 84 y2.toNatClampNeg)) 84 y2.toNatClampNeg (I 86 (y1 + y2).toNatClampNeg)) J rv sp rr w nw out e k
    · rw [if_neg h577] at e
      cases e
      refine mm_T.mask [false, false, false, false] ?_
      exact k
set_option maxRecDepth 100000 in
set_option maxHeartbeats 4000000 in
theorem tX12_exchange (d n : Nat) (x1 : Int32) (I : Nat → Nat → Int32) (J : Nat → Nat → Int64) (rv sp rr w nw : Nat) (out : (Nat → Nat → Int32)) (e : fX12_exchange n x1 I = some out) : mm_T none (d + 0) 268 (mm_ent 268 [(.ref 62), (.int x1)]) (107, I, J, mm_rf rv sp rr w nw) (fun v h => v = none ∧ h = (107, out, J, mm_rf rv sp rr w nw)) := by
  unfold fX12_exchange at e
  refine mm_T.seg (f' := (2, [some (.ref 62), some (.int x1), some (.int 0), none], [])) (h' := (107, I, J, mm_rf rv sp rr w nw)) 2 rfl ?_
  refine mm_T.mask [true, true, true, false] ?_
  obtain ⟨o582, eo582, e⟩ := mm_bind e
  refine tlX12_exchange_L2 d _ n x1 0 I J rv sp rr w nw o582 eo582 ?_
  cases e
  exact mm_T.ret rfl ⟨rfl, rfl⟩
def fX12_stroke_J40 (I : Nat → Nat → Int32) : Option (Int32 × (Nat → Nat → Int32)) := some ((-1), I)
def fX12_stroke_J83 (n : Nat) (u0 : Int32) (u1 : Int32) (u2 : Int32) (I : Nat → Nat → Int32) : Option (Int32 × (Nat → Nat → Int32)) := (if ((I 85 27) - (I 85 27) / 100 * 100) < (I 62 50) then (fX12_goStroke n u2 u1 u0 2 I).bind fun o592 => (fX12_keepAir n o592.2).bind fun o593 => some (o592.1, o593) else (fX12_goStroke n u2 u1 u0 1 I).bind fun o594 => (fX12_keepAir n o594.2).bind fun o595 => some (o594.1, o595))
def fX12_stroke_J37 (n : Nat) (y1 : Int32) (y2 : Int32) (y3 : Int32) (u0 : Int32) (u1 : Int32) (I : Nat → Nat → Int32) : Option (Int32 × (Nat → Nat → Int32)) := (if u1 = u0 then (fX12_stroke_J40 I) else (fX12_act n I).bind fun o589 => (if y3 = 0 then (fX12_stroke_J83 n (-1) y2 y1 (mm_up o589 85 27 ((((o589 85 27) * 137) + 71) - (((o589 85 27) * 137) + 71) / 1000 * 1000))) else (fX12_stroke_J83 n 1 y2 y1 (mm_up o589 85 27 ((((o589 85 27) * 137) + 71) - (((o589 85 27) * 137) + 71) / 1000 * 1000)))))
def fX12_stroke (n : Nat) (x1 : Int32) (x2 : Int32) (x3 : Int32) (I : Nat → Nat → Int32) : Option (Int32 × (Nat → Nat → Int32)) := (fX12_isBoard x1 I).bind fun o583 => (if o583 = 0 then (fX12_stroke_J40 I) else (if (fX12_isIn x2 (-1) 1) = 0 then (fX12_stroke_J40 I) else (if (4 + x1) < 0 ∨ 28 ≤ (4 + x1).toNatClampNeg then none else (if x3 = 0 then (fX12_stroke_J37 n x1 x2 x3 0 (I 84 (4 + x1).toNatClampNeg) I) else (fX12_stroke_J37 n x1 x2 x3 (I 62 47) (I 84 (4 + x1).toNatClampNeg) I)))))
set_option maxRecDepth 100000 in
set_option maxHeartbeats 4000000 in
theorem tbX12_stroke_J40 (d : Nat) (I : Nat → Nat → Int32) (J : Nat → Nat → Int64) (rv sp rr w nw : Nat) (out : Int32 × (Nat → Nat → Int32)) (e : fX12_stroke_J40 I = some out) : mm_T none (d + 4) 269 (40, [none, none, none, none, none], []) (107, I, J, mm_rf rv sp rr w nw) (fun v h => v = some (.int out.1) ∧ h = (107, out.2, J, mm_rf rv sp rr w nw)) := by
  unfold fX12_stroke_J40 at e
  refine mm_T.seg (f' := (41, [none, none, none, none, none], [(.int (-1))])) (h' := (107, I, J, mm_rf rv sp rr w nw)) 1 rfl ?_
  cases e
  exact mm_T.ret rfl ⟨rfl, rfl⟩
set_option maxRecDepth 100000 in
set_option maxHeartbeats 4000000 in
theorem tbX12_stroke_J83 (d n : Nat) (u0 : Int32) (u1 : Int32) (u2 : Int32) (I : Nat → Nat → Int32) (J : Nat → Nat → Int64) (rv sp rr w nw : Nat) (out : Int32 × (Nat → Nat → Int32)) (e : fX12_stroke_J83 n u0 u1 u2 I = some out) : mm_T none (d + 4) 269 (83, [some (.ref 62), none, none, none, none], [(.int u0), (.int u1), (.int u2), (.ref 62)]) (107, I, J, mm_rf rv sp rr w nw) (fun v h => v = some (.int out.1) ∧ h = (107, out.2, J, mm_rf rv sp rr w nw)) := by
  unfold fX12_stroke_J83 at e
  refine mm_T.seg (f' := (97, [some (.ref 62), none, none, none, none], [(.int (I 62 50)), (.int ((I 85 27) - (I 85 27) / 100 * 100)), (.int u0), (.int u1), (.int u2), (.ref 62)])) (h' := (107, I, J, mm_rf rv sp rr w nw)) 8 rfl ?_
  refine mm_T.br (c := ((I 85 27) - (I 85 27) / 100 * 100) < (I 62 50)) (a := ((100, [some (.ref 62), none, none, none, none], [(.int u0), (.int u1), (.int u2), (.ref 62)]), (107, I, J, mm_rf rv sp rr w nw))) (b := ((104, [some (.ref 62), none, none, none, none], [(.int u0), (.int u1), (.int u2), (.ref 62)]), (107, I, J, mm_rf rv sp rr w nw))) rfl (fun h591 => ?_) (fun h591 => ?_)
  · rw [if_pos h591] at e
    refine mm_T.seg (f' := (105, [some (.ref 62), none, none, none, none], [(.int 2), (.int u0), (.int u1), (.int u2), (.ref 62)])) (h' := (107, I, J, mm_rf rv sp rr w nw)) 2 rfl ?_
    obtain ⟨o592, eo592, e⟩ := mm_bind e
    refine mm_T.call (t := 261) (as := [(.ref 62), (.int u2), (.int u1), (.int u0), (.int 2)]) (f' := (108, [some (.ref 62), none, none, none, none], [])) rfl (tX12_goStroke (d + 0) n u2 u1 u0 2 I J rv sp rr w nw o592 eo592) (fun v h hq => ?_)
    obtain ⟨rfl, rfl⟩ := hq
    refine mm_T.seg (f' := (111, [some (.ref 62), none, none, none, some (.int o592.1)], [(.ref 62)])) (h' := (107, o592.2, J, mm_rf rv sp rr w nw)) 2 rfl ?_
    obtain ⟨o593, eo593, e⟩ := mm_bind e
    refine mm_T.call (t := 257) (as := [(.ref 62)]) (f' := (114, [some (.ref 62), none, none, none, some (.int o592.1)], [])) rfl (tX12_keepAir (d + 3) n o592.2 J rv sp rr w nw o593 eo593) (fun v h hq => ?_)
    obtain ⟨rfl, rfl⟩ := hq
    refine mm_T.seg (f' := (116, [some (.ref 62), none, none, none, some (.int o592.1)], [(.int o592.1)])) (h' := (107, o593, J, mm_rf rv sp rr w nw)) 1 rfl ?_
    cases e
    exact mm_T.ret rfl ⟨rfl, rfl⟩
  · rw [if_neg h591] at e
    refine mm_T.seg (f' := (105, [some (.ref 62), none, none, none, none], [(.int 1), (.int u0), (.int u1), (.int u2), (.ref 62)])) (h' := (107, I, J, mm_rf rv sp rr w nw)) 1 rfl ?_
    obtain ⟨o594, eo594, e⟩ := mm_bind e
    refine mm_T.call (t := 261) (as := [(.ref 62), (.int u2), (.int u1), (.int u0), (.int 1)]) (f' := (108, [some (.ref 62), none, none, none, none], [])) rfl (tX12_goStroke (d + 0) n u2 u1 u0 1 I J rv sp rr w nw o594 eo594) (fun v h hq => ?_)
    obtain ⟨rfl, rfl⟩ := hq
    refine mm_T.seg (f' := (111, [some (.ref 62), none, none, none, some (.int o594.1)], [(.ref 62)])) (h' := (107, o594.2, J, mm_rf rv sp rr w nw)) 2 rfl ?_
    obtain ⟨o595, eo595, e⟩ := mm_bind e
    refine mm_T.call (t := 257) (as := [(.ref 62)]) (f' := (114, [some (.ref 62), none, none, none, some (.int o594.1)], [])) rfl (tX12_keepAir (d + 3) n o594.2 J rv sp rr w nw o595 eo595) (fun v h hq => ?_)
    obtain ⟨rfl, rfl⟩ := hq
    refine mm_T.seg (f' := (116, [some (.ref 62), none, none, none, some (.int o594.1)], [(.int o594.1)])) (h' := (107, o595, J, mm_rf rv sp rr w nw)) 1 rfl ?_
    cases e
    exact mm_T.ret rfl ⟨rfl, rfl⟩
set_option maxRecDepth 100000 in
set_option maxHeartbeats 4000000 in
theorem tbX12_stroke_J37 (d n : Nat) (y1 : Int32) (y2 : Int32) (y3 : Int32) (u0 : Int32) (u1 : Int32) (I : Nat → Nat → Int32) (J : Nat → Nat → Int64) (rv sp rr w nw : Nat) (out : Int32 × (Nat → Nat → Int32)) (e : fX12_stroke_J37 n y1 y2 y3 u0 u1 I = some out) : mm_T none (d + 4) 269 (37, [some (.ref 62), some (.int y1), some (.int y2), some (.int y3), none], [(.int u0), (.int u1)]) (107, I, J, mm_rf rv sp rr w nw) (fun v h => v = some (.int out.1) ∧ h = (107, out.2, J, mm_rf rv sp rr w nw)) := by
  unfold fX12_stroke_J37 at e
  refine mm_T.br (c := u1 = u0) (a := ((40, [some (.ref 62), some (.int y1), some (.int y2), some (.int y3), none], []), (107, I, J, mm_rf rv sp rr w nw))) (b := ((42, [some (.ref 62), some (.int y1), some (.int y2), some (.int y3), none], []), (107, I, J, mm_rf rv sp rr w nw))) rfl (fun h588 => ?_) (fun h588 => ?_)
  · rw [if_pos h588] at e
    refine mm_T.mask [false, false, false, false, false] ?_
    exact tbX12_stroke_J40 d I J rv sp rr w nw out e
  · rw [if_neg h588] at e
    refine mm_T.seg (f' := (43, [some (.ref 62), some (.int y1), some (.int y2), some (.int y3), none], [(.ref 62)])) (h' := (107, I, J, mm_rf rv sp rr w nw)) 1 rfl ?_
    obtain ⟨o589, eo589, e⟩ := mm_bind e
    refine mm_T.call (t := 267) (as := [(.ref 62)]) (f' := (46, [some (.ref 62), some (.int y1), some (.int y2), some (.int y3), none], [])) rfl (tX12_act (d + 2) n I J rv sp rr w nw o589 eo589) (fun v h hq => ?_)
    obtain ⟨rfl, rfl⟩ := hq
    refine mm_T.seg (f' := (75, [some (.ref 62), some (.int y1), some (.int y2), some (.int y3), none], [(.int y3), (.int y2), (.int y1), (.ref 62)])) (h' := (107, (mm_up o589 85 27 ((((o589 85 27) * 137) + 71) - (((o589 85 27) * 137) + 71) / 1000 * 1000)), J, mm_rf rv sp rr w nw)) 18 rfl ?_
    refine mm_T.br (c := y3 = 0) (a := ((82, [some (.ref 62), some (.int y1), some (.int y2), some (.int y3), none], [(.int y2), (.int y1), (.ref 62)]), (107, (mm_up o589 85 27 ((((o589 85 27) * 137) + 71) - (((o589 85 27) * 137) + 71) / 1000 * 1000)), J, mm_rf rv sp rr w nw))) (b := ((78, [some (.ref 62), some (.int y1), some (.int y2), some (.int y3), none], [(.int y2), (.int y1), (.ref 62)]), (107, (mm_up o589 85 27 ((((o589 85 27) * 137) + 71) - (((o589 85 27) * 137) + 71) / 1000 * 1000)), J, mm_rf rv sp rr w nw))) rfl (fun h590 => ?_) (fun h590 => ?_)
    · rw [if_pos h590] at e
      refine mm_T.seg (f' := (83, [some (.ref 62), some (.int y1), some (.int y2), some (.int y3), none], [(.int (-1)), (.int y2), (.int y1), (.ref 62)])) (h' := (107, (mm_up o589 85 27 ((((o589 85 27) * 137) + 71) - (((o589 85 27) * 137) + 71) / 1000 * 1000)), J, mm_rf rv sp rr w nw)) 1 rfl ?_
      refine mm_T.mask [true, false, false, false, false] ?_
      exact tbX12_stroke_J83 d n (-1) y2 y1 (mm_up o589 85 27 ((((o589 85 27) * 137) + 71) - (((o589 85 27) * 137) + 71) / 1000 * 1000)) J rv sp rr w nw out e
    · rw [if_neg h590] at e
      refine mm_T.seg (f' := (83, [some (.ref 62), some (.int y1), some (.int y2), some (.int y3), none], [(.int 1), (.int y2), (.int y1), (.ref 62)])) (h' := (107, (mm_up o589 85 27 ((((o589 85 27) * 137) + 71) - (((o589 85 27) * 137) + 71) / 1000 * 1000)), J, mm_rf rv sp rr w nw)) 2 rfl ?_
      refine mm_T.mask [true, false, false, false, false] ?_
      exact tbX12_stroke_J83 d n 1 y2 y1 (mm_up o589 85 27 ((((o589 85 27) * 137) + 71) - (((o589 85 27) * 137) + 71) / 1000 * 1000)) J rv sp rr w nw out e
set_option maxRecDepth 100000 in
set_option maxHeartbeats 4000000 in
theorem tX12_stroke (d n : Nat) (x1 : Int32) (x2 : Int32) (x3 : Int32) (I : Nat → Nat → Int32) (J : Nat → Nat → Int64) (rv sp rr w nw : Nat) (out : Int32 × (Nat → Nat → Int32)) (e : fX12_stroke n x1 x2 x3 I = some out) : mm_T none (d + 4) 269 (mm_ent 269 [(.ref 62), (.int x1), (.int x2), (.int x3)]) (107, I, J, mm_rf rv sp rr w nw) (fun v h => v = some (.int out.1) ∧ h = (107, out.2, J, mm_rf rv sp rr w nw)) := by
  unfold fX12_stroke at e
  refine mm_T.seg (f' := (2, [some (.ref 62), some (.int x1), some (.int x2), some (.int x3), none], [(.int x1), (.ref 62)])) (h' := (107, I, J, mm_rf rv sp rr w nw)) 2 rfl ?_
  obtain ⟨o583, eo583, e⟩ := mm_bind e
  refine mm_T.call (t := 253) (as := [(.ref 62), (.int x1)]) (f' := (5, [some (.ref 62), some (.int x1), some (.int x2), some (.int x3), none], [])) rfl (tX12_isBoard (d + 2) x1 I J rv sp rr w nw o583 eo583) (fun v h hq => ?_)
  obtain ⟨rfl, rfl⟩ := hq
  refine mm_T.br (c := o583 = 0) (a := ((40, [some (.ref 62), some (.int x1), some (.int x2), some (.int x3), none], []), (107, I, J, mm_rf rv sp rr w nw))) (b := ((8, [some (.ref 62), some (.int x1), some (.int x2), some (.int x3), none], []), (107, I, J, mm_rf rv sp rr w nw))) rfl (fun h584 => ?_) (fun h584 => ?_)
  · rw [if_pos h584] at e
    refine mm_T.mask [false, false, false, false, false] ?_
    exact tbX12_stroke_J40 d I J rv sp rr w nw out e
  · rw [if_neg h584] at e
    refine mm_T.seg (f' := (11, [some (.ref 62), some (.int x1), some (.int x2), some (.int x3), none], [(.int 1), (.int (-1)), (.int x2)])) (h' := (107, I, J, mm_rf rv sp rr w nw)) 3 rfl ?_
    refine mm_T.call (t := 252) (as := [(.int x2), (.int (-1)), (.int 1)]) (f' := (14, [some (.ref 62), some (.int x1), some (.int x2), some (.int x3), none], [])) rfl (tX12_isIn (d + 3) x2 (-1) 1 I J rv sp rr w nw _ rfl) (fun v h hq => ?_)
    obtain ⟨rfl, rfl⟩ := hq
    refine mm_T.br (c := (fX12_isIn x2 (-1) 1) = 0) (a := ((40, [some (.ref 62), some (.int x1), some (.int x2), some (.int x3), none], []), (107, I, J, mm_rf rv sp rr w nw))) (b := ((17, [some (.ref 62), some (.int x1), some (.int x2), some (.int x3), none], []), (107, I, J, mm_rf rv sp rr w nw))) rfl (fun h585 => ?_) (fun h585 => ?_)
    · rw [if_pos h585] at e
      refine mm_T.mask [false, false, false, false, false] ?_
      exact tbX12_stroke_J40 d I J rv sp rr w nw out e
    · rw [if_neg h585] at e
      refine mm_T.seg (f' := (24, [some (.ref 62), some (.int x1), some (.int x2), some (.int x3), none], [(.int (4 + x1)), (.ref 84)])) (h' := (107, I, J, mm_rf rv sp rr w nw)) 5 rfl ?_
      by_cases h586 : (4 + x1) < 0 ∨ 28 ≤ (4 + x1).toNatClampNeg
      · rw [if_pos h586] at e; cases e
      rw [if_neg h586] at e
      refine mm_T.guard (y := ((25, [some (.ref 62), some (.int x1), some (.int x2), some (.int x3), none], [(.int (I 84 (4 + x1).toNatClampNeg))]), (107, I, J, mm_rf rv sp rr w nw))) rfl h586 ?_
      refine mm_T.seg (f' := (26, [some (.ref 62), some (.int x1), some (.int x2), some (.int x3), none], [(.int x3), (.int (I 84 (4 + x1).toNatClampNeg))])) (h' := (107, I, J, mm_rf rv sp rr w nw)) 1 rfl ?_
      refine mm_T.br (c := x3 = 0) (a := ((36, [some (.ref 62), some (.int x1), some (.int x2), some (.int x3), none], [(.int (I 84 (4 + x1).toNatClampNeg))]), (107, I, J, mm_rf rv sp rr w nw))) (b := ((29, [some (.ref 62), some (.int x1), some (.int x2), some (.int x3), none], [(.int (I 84 (4 + x1).toNatClampNeg))]), (107, I, J, mm_rf rv sp rr w nw))) rfl (fun h587 => ?_) (fun h587 => ?_)
      · rw [if_pos h587] at e
        refine mm_T.seg (f' := (37, [some (.ref 62), some (.int x1), some (.int x2), some (.int x3), none], [(.int 0), (.int (I 84 (4 + x1).toNatClampNeg))])) (h' := (107, I, J, mm_rf rv sp rr w nw)) 1 rfl ?_
        refine mm_T.mask [true, true, true, true, false] ?_
        exact tbX12_stroke_J37 d n x1 x2 x3 0 (I 84 (4 + x1).toNatClampNeg) I J rv sp rr w nw out e
      · rw [if_neg h587] at e
        refine mm_T.seg (f' := (37, [some (.ref 62), some (.int x1), some (.int x2), some (.int x3), none], [(.int (I 62 47)), (.int (I 84 (4 + x1).toNatClampNeg))])) (h' := (107, I, J, mm_rf rv sp rr w nw)) 3 rfl ?_
        refine mm_T.mask [true, true, true, true, false] ?_
        exact tbX12_stroke_J37 d n x1 x2 x3 (I 62 47) (I 84 (4 + x1).toNatClampNeg) I J rv sp rr w nw out e
def fX12_isAtBank (x1 : Int32) (I : Nat → Nat → Int32) : Option (Int32) := (if (4 + x1) < 0 ∨ 28 ≤ (4 + x1).toNatClampNeg then none else (if (I 84 (4 + x1).toNatClampNeg) = 0 then some 1 else (if (4 + x1) < 0 ∨ 28 ≤ (4 + x1).toNatClampNeg then none else (if (I 84 (4 + x1).toNatClampNeg) = (I 62 47) then some 1 else some 0))))
set_option maxRecDepth 100000 in
set_option maxHeartbeats 4000000 in
theorem tX12_isAtBank (d : Nat) (x1 : Int32) (I : Nat → Nat → Int32) (J : Nat → Nat → Int64) (rv sp rr w nw : Nat) (out : Int32) (e : fX12_isAtBank x1 I = some out) : mm_T none (d + 0) 270 (mm_ent 270 [(.ref 62), (.int x1)]) (107, I, J, mm_rf rv sp rr w nw) (fun v h => v = some (.int out) ∧ h = (107, I, J, mm_rf rv sp rr w nw)) := by
  unfold fX12_isAtBank at e
  refine mm_T.seg (f' := (7, [some (.ref 62), some (.int x1)], [(.int (4 + x1)), (.ref 84)])) (h' := (107, I, J, mm_rf rv sp rr w nw)) 5 rfl ?_
  by_cases h596 : (4 + x1) < 0 ∨ 28 ≤ (4 + x1).toNatClampNeg
  · rw [if_pos h596] at e; cases e
  rw [if_neg h596] at e
  refine mm_T.guard (y := ((8, [some (.ref 62), some (.int x1)], [(.int (I 84 (4 + x1).toNatClampNeg))]), (107, I, J, mm_rf rv sp rr w nw))) rfl h596 ?_
  refine mm_T.br (c := (I 84 (4 + x1).toNatClampNeg) = 0) (a := ((26, [some (.ref 62), some (.int x1)], []), (107, I, J, mm_rf rv sp rr w nw))) (b := ((11, [some (.ref 62), some (.int x1)], []), (107, I, J, mm_rf rv sp rr w nw))) rfl (fun h597 => ?_) (fun h597 => ?_)
  · rw [if_pos h597] at e
    refine mm_T.seg (f' := (31, [some (.ref 62), some (.int x1)], [(.int 1)])) (h' := (107, I, J, mm_rf rv sp rr w nw)) 2 rfl ?_
    cases e
    exact mm_T.ret rfl ⟨rfl, rfl⟩
  · rw [if_neg h597] at e
    refine mm_T.seg (f' := (18, [some (.ref 62), some (.int x1)], [(.int (4 + x1)), (.ref 84)])) (h' := (107, I, J, mm_rf rv sp rr w nw)) 5 rfl ?_
    by_cases h598 : (4 + x1) < 0 ∨ 28 ≤ (4 + x1).toNatClampNeg
    · rw [if_pos h598] at e; cases e
    rw [if_neg h598] at e
    refine mm_T.guard (y := ((19, [some (.ref 62), some (.int x1)], [(.int (I 84 (4 + x1).toNatClampNeg))]), (107, I, J, mm_rf rv sp rr w nw))) rfl h598 ?_
    refine mm_T.seg (f' := (23, [some (.ref 62), some (.int x1)], [(.int (I 62 47)), (.int (I 84 (4 + x1).toNatClampNeg))])) (h' := (107, I, J, mm_rf rv sp rr w nw)) 2 rfl ?_
    refine mm_T.br (c := (I 84 (4 + x1).toNatClampNeg) = (I 62 47)) (a := ((26, [some (.ref 62), some (.int x1)], []), (107, I, J, mm_rf rv sp rr w nw))) (b := ((30, [some (.ref 62), some (.int x1)], []), (107, I, J, mm_rf rv sp rr w nw))) rfl (fun h599 => ?_) (fun h599 => ?_)
    · rw [if_pos h599] at e
      refine mm_T.seg (f' := (31, [some (.ref 62), some (.int x1)], [(.int 1)])) (h' := (107, I, J, mm_rf rv sp rr w nw)) 2 rfl ?_
      cases e
      exact mm_T.ret rfl ⟨rfl, rfl⟩
    · rw [if_neg h599] at e
      refine mm_T.seg (f' := (31, [some (.ref 62), some (.int x1)], [(.int 0)])) (h' := (107, I, J, mm_rf rv sp rr w nw)) 1 rfl ?_
      cases e
      exact mm_T.ret rfl ⟨rfl, rfl⟩
def fX12_bankOf (x1 : Int32) : Int32 := (if x1 = 0 then (-1) else (-2))
set_option maxRecDepth 100000 in
set_option maxHeartbeats 4000000 in
theorem tX12_bankOf (d : Nat) (x1 : Int32) (I : Nat → Nat → Int32) (J : Nat → Nat → Int64) (rv sp rr w nw : Nat) (out : Int32) (e : fX12_bankOf x1 = out) : mm_T none (d + 0) 271 (mm_ent 271 [(.ref 62), (.int x1)]) (107, I, J, mm_rf rv sp rr w nw) (fun v h => v = some (.int out) ∧ h = (107, I, J, mm_rf rv sp rr w nw)) := by
  unfold fX12_bankOf at e
  refine mm_T.seg (f' := (1, [some (.ref 62), some (.int x1)], [(.int x1)])) (h' := (107, I, J, mm_rf rv sp rr w nw)) 1 rfl ?_
  refine mm_T.br (c := x1 = 0) (a := ((4, [some (.ref 62), some (.int x1)], []), (107, I, J, mm_rf rv sp rr w nw))) (b := ((8, [some (.ref 62), some (.int x1)], []), (107, I, J, mm_rf rv sp rr w nw))) rfl (fun h600 => ?_) (fun h600 => ?_)
  · rw [if_pos h600] at e
    refine mm_T.seg (f' := (10, [some (.ref 62), some (.int x1)], [(.int (-1))])) (h' := (107, I, J, mm_rf rv sp rr w nw)) 2 rfl ?_
    cases e
    exact mm_T.ret rfl ⟨rfl, rfl⟩
  · rw [if_neg h600] at e
    refine mm_T.seg (f' := (10, [some (.ref 62), some (.int x1)], [(.int (-2))])) (h' := (107, I, J, mm_rf rv sp rr w nw)) 1 rfl ?_
    cases e
    exact mm_T.ret rfl ⟨rfl, rfl⟩
def fX12_stow (n : Nat) (x1 : Int32) (x2 : Int32) (I : Nat → Nat → Int32) : Option (Int32 × (Nat → Nat → Int32)) := (fX12_fill n I).bind fun o601 => (fX12_isLoad x1 o601).bind fun o602 => (if o602 = 0 then some ((-1), o601) else (fX12_isBoard x2 o601).bind fun o604 => (if o604 = 0 then some ((-1), o601) else (fX12_isAtBank x2 o601).bind fun o606 => (if o606 = 0 then some ((-1), o601) else (if (20 + x1) < 0 ∨ 28 ≤ (20 + x1).toNatClampNeg then none else (if (4 + x2) < 0 ∨ 28 ≤ (4 + x2).toNatClampNeg then none else (if (o601 84 (20 + x1).toNatClampNeg) = (fX12_bankOf (o601 84 (4 + x2).toNatClampNeg)) then (fX12_burdenOf n x2 o601).bind fun o611 => (if x1 < 0 ∨ 7 ≤ x1.toNatClampNeg then none else (if x2 < 0 ∨ 4 ≤ x2.toNatClampNeg then none else (if (o601 80 x2.toNatClampNeg) < (o611 + (o601 83 x1.toNatClampNeg)) then some ((-1), o601) else (fX12_act n o601).bind fun o615 => (if (20 + x1) < 0 ∨ 28 ≤ (20 + x1).toNatClampNeg then none else (fX12_keepAir n (mm_up o615 85 (20 + x1).toNatClampNeg x2)).bind fun o617 => (fX12_burdenOf n x2 o617).bind fun o618 => some (o618, o617))))) else some ((-1), o601)))))))
set_option maxRecDepth 100000 in
set_option maxHeartbeats 4000000 in
theorem tX12_stow (d n : Nat) (x1 : Int32) (x2 : Int32) (I : Nat → Nat → Int32) (J : Nat → Nat → Int64) (rv sp rr w nw : Nat) (out : Int32 × (Nat → Nat → Int32)) (e : fX12_stow n x1 x2 I = some out) : mm_T none (d + 2) 272 (mm_ent 272 [(.ref 62), (.int x1), (.int x2)]) (107, I, J, mm_rf rv sp rr w nw) (fun v h => v = some (.int out.1) ∧ h = (107, out.2, J, mm_rf rv sp rr w nw)) := by
  unfold fX12_stow at e
  refine mm_T.seg (f' := (1, [some (.ref 62), some (.int x1), some (.int x2)], [(.ref 62)])) (h' := (107, I, J, mm_rf rv sp rr w nw)) 1 rfl ?_
  obtain ⟨o601, eo601, e⟩ := mm_bind e
  refine mm_T.call (t := 256) (as := [(.ref 62)]) (f' := (4, [some (.ref 62), some (.int x1), some (.int x2)], [])) rfl (tX12_fill (d + 1) n I J rv sp rr w nw o601 eo601) (fun v h hq => ?_)
  obtain ⟨rfl, rfl⟩ := hq
  refine mm_T.seg (f' := (6, [some (.ref 62), some (.int x1), some (.int x2)], [(.int x1), (.ref 62)])) (h' := (107, o601, J, mm_rf rv sp rr w nw)) 2 rfl ?_
  obtain ⟨o602, eo602, e⟩ := mm_bind e
  refine mm_T.call (t := 254) (as := [(.ref 62), (.int x1)]) (f' := (9, [some (.ref 62), some (.int x1), some (.int x2)], [])) rfl (tX12_isLoad (d + 0) x1 o601 J rv sp rr w nw o602 eo602) (fun v h hq => ?_)
  obtain ⟨rfl, rfl⟩ := hq
  refine mm_T.br (c := o602 = 0) (a := ((73, [some (.ref 62), some (.int x1), some (.int x2)], []), (107, o601, J, mm_rf rv sp rr w nw))) (b := ((12, [some (.ref 62), some (.int x1), some (.int x2)], []), (107, o601, J, mm_rf rv sp rr w nw))) rfl (fun h603 => ?_) (fun h603 => ?_)
  · rw [if_pos h603] at e
    refine mm_T.seg (f' := (74, [some (.ref 62), some (.int x1), some (.int x2)], [(.int (-1))])) (h' := (107, o601, J, mm_rf rv sp rr w nw)) 1 rfl ?_
    cases e
    exact mm_T.ret rfl ⟨rfl, rfl⟩
  · rw [if_neg h603] at e
    refine mm_T.seg (f' := (14, [some (.ref 62), some (.int x1), some (.int x2)], [(.int x2), (.ref 62)])) (h' := (107, o601, J, mm_rf rv sp rr w nw)) 2 rfl ?_
    obtain ⟨o604, eo604, e⟩ := mm_bind e
    refine mm_T.call (t := 253) (as := [(.ref 62), (.int x2)]) (f' := (17, [some (.ref 62), some (.int x1), some (.int x2)], [])) rfl (tX12_isBoard (d + 0) x2 o601 J rv sp rr w nw o604 eo604) (fun v h hq => ?_)
    obtain ⟨rfl, rfl⟩ := hq
    refine mm_T.br (c := o604 = 0) (a := ((73, [some (.ref 62), some (.int x1), some (.int x2)], []), (107, o601, J, mm_rf rv sp rr w nw))) (b := ((20, [some (.ref 62), some (.int x1), some (.int x2)], []), (107, o601, J, mm_rf rv sp rr w nw))) rfl (fun h605 => ?_) (fun h605 => ?_)
    · rw [if_pos h605] at e
      refine mm_T.seg (f' := (74, [some (.ref 62), some (.int x1), some (.int x2)], [(.int (-1))])) (h' := (107, o601, J, mm_rf rv sp rr w nw)) 1 rfl ?_
      cases e
      exact mm_T.ret rfl ⟨rfl, rfl⟩
    · rw [if_neg h605] at e
      refine mm_T.seg (f' := (22, [some (.ref 62), some (.int x1), some (.int x2)], [(.int x2), (.ref 62)])) (h' := (107, o601, J, mm_rf rv sp rr w nw)) 2 rfl ?_
      obtain ⟨o606, eo606, e⟩ := mm_bind e
      refine mm_T.call (t := 270) (as := [(.ref 62), (.int x2)]) (f' := (25, [some (.ref 62), some (.int x1), some (.int x2)], [])) rfl (tX12_isAtBank (d + 1) x2 o601 J rv sp rr w nw o606 eo606) (fun v h hq => ?_)
      obtain ⟨rfl, rfl⟩ := hq
      refine mm_T.br (c := o606 = 0) (a := ((73, [some (.ref 62), some (.int x1), some (.int x2)], []), (107, o601, J, mm_rf rv sp rr w nw))) (b := ((28, [some (.ref 62), some (.int x1), some (.int x2)], []), (107, o601, J, mm_rf rv sp rr w nw))) rfl (fun h607 => ?_) (fun h607 => ?_)
      · rw [if_pos h607] at e
        refine mm_T.seg (f' := (74, [some (.ref 62), some (.int x1), some (.int x2)], [(.int (-1))])) (h' := (107, o601, J, mm_rf rv sp rr w nw)) 1 rfl ?_
        cases e
        exact mm_T.ret rfl ⟨rfl, rfl⟩
      · rw [if_neg h607] at e
        refine mm_T.seg (f' := (36, [some (.ref 62), some (.int x1), some (.int x2)], [(.int (20 + x1)), (.ref 84)])) (h' := (107, o601, J, mm_rf rv sp rr w nw)) 5 rfl ?_
        by_cases h608 : (20 + x1) < 0 ∨ 28 ≤ (20 + x1).toNatClampNeg
        · rw [if_pos h608] at e; cases e
        rw [if_neg h608] at e
        refine mm_T.guard (y := ((37, [some (.ref 62), some (.int x1), some (.int x2)], [(.int (o601 84 (20 + x1).toNatClampNeg))]), (107, o601, J, mm_rf rv sp rr w nw))) rfl h608 ?_
        refine mm_T.seg (f' := (45, [some (.ref 62), some (.int x1), some (.int x2)], [(.int (4 + x2)), (.ref 84), (.ref 62), (.int (o601 84 (20 + x1).toNatClampNeg))])) (h' := (107, o601, J, mm_rf rv sp rr w nw)) 6 rfl ?_
        by_cases h609 : (4 + x2) < 0 ∨ 28 ≤ (4 + x2).toNatClampNeg
        · rw [if_pos h609] at e; cases e
        rw [if_neg h609] at e
        refine mm_T.guard (y := ((46, [some (.ref 62), some (.int x1), some (.int x2)], [(.int (o601 84 (4 + x2).toNatClampNeg)), (.ref 62), (.int (o601 84 (20 + x1).toNatClampNeg))]), (107, o601, J, mm_rf rv sp rr w nw))) rfl h609 ?_
        refine mm_T.call (t := 271) (as := [(.ref 62), (.int (o601 84 (4 + x2).toNatClampNeg))]) (f' := (49, [some (.ref 62), some (.int x1), some (.int x2)], [(.int (o601 84 (20 + x1).toNatClampNeg))])) rfl (tX12_bankOf (d + 1) (o601 84 (4 + x2).toNatClampNeg) o601 J rv sp rr w nw _ rfl) (fun v h hq => ?_)
        obtain ⟨rfl, rfl⟩ := hq
        refine mm_T.br (c := (o601 84 (20 + x1).toNatClampNeg) = (fX12_bankOf (o601 84 (4 + x2).toNatClampNeg))) (a := ((52, [some (.ref 62), some (.int x1), some (.int x2)], []), (107, o601, J, mm_rf rv sp rr w nw))) (b := ((73, [some (.ref 62), some (.int x1), some (.int x2)], []), (107, o601, J, mm_rf rv sp rr w nw))) rfl (fun h610 => ?_) (fun h610 => ?_)
        · rw [if_pos h610] at e
          refine mm_T.seg (f' := (54, [some (.ref 62), some (.int x1), some (.int x2)], [(.int x2), (.ref 62)])) (h' := (107, o601, J, mm_rf rv sp rr w nw)) 2 rfl ?_
          obtain ⟨o611, eo611, e⟩ := mm_bind e
          refine mm_T.call (t := 240) (as := [(.ref 62), (.int x2)]) (f' := (57, [some (.ref 62), some (.int x1), some (.int x2)], [])) rfl (tX12_burdenOf (d + 1) n x2 o601 J rv sp rr w nw o611 eo611) (fun v h hq => ?_)
          obtain ⟨rfl, rfl⟩ := hq
          refine mm_T.seg (f' := (62, [some (.ref 62), some (.int x1), some (.int x2)], [(.int x1), (.ref 83), (.int o611)])) (h' := (107, o601, J, mm_rf rv sp rr w nw)) 3 rfl ?_
          by_cases h612 : x1 < 0 ∨ 7 ≤ x1.toNatClampNeg
          · rw [if_pos h612] at e; cases e
          rw [if_neg h612] at e
          refine mm_T.guard (y := ((63, [some (.ref 62), some (.int x1), some (.int x2)], [(.int (o601 83 x1.toNatClampNeg)), (.int o611)]), (107, o601, J, mm_rf rv sp rr w nw))) rfl h612 ?_
          refine mm_T.seg (f' := (69, [some (.ref 62), some (.int x1), some (.int x2)], [(.int x2), (.ref 80), (.int (o611 + (o601 83 x1.toNatClampNeg)))])) (h' := (107, o601, J, mm_rf rv sp rr w nw)) 4 rfl ?_
          by_cases h613 : x2 < 0 ∨ 4 ≤ x2.toNatClampNeg
          · rw [if_pos h613] at e; cases e
          rw [if_neg h613] at e
          refine mm_T.guard (y := ((70, [some (.ref 62), some (.int x1), some (.int x2)], [(.int (o601 80 x2.toNatClampNeg)), (.int (o611 + (o601 83 x1.toNatClampNeg)))]), (107, o601, J, mm_rf rv sp rr w nw))) rfl h613 ?_
          refine mm_T.br (c := (o601 80 x2.toNatClampNeg) < (o611 + (o601 83 x1.toNatClampNeg))) (a := ((73, [some (.ref 62), some (.int x1), some (.int x2)], []), (107, o601, J, mm_rf rv sp rr w nw))) (b := ((75, [some (.ref 62), some (.int x1), some (.int x2)], []), (107, o601, J, mm_rf rv sp rr w nw))) rfl (fun h614 => ?_) (fun h614 => ?_)
          · rw [if_pos h614] at e
            refine mm_T.seg (f' := (74, [some (.ref 62), some (.int x1), some (.int x2)], [(.int (-1))])) (h' := (107, o601, J, mm_rf rv sp rr w nw)) 1 rfl ?_
            cases e
            exact mm_T.ret rfl ⟨rfl, rfl⟩
          · rw [if_neg h614] at e
            refine mm_T.seg (f' := (76, [some (.ref 62), some (.int x1), some (.int x2)], [(.ref 62)])) (h' := (107, o601, J, mm_rf rv sp rr w nw)) 1 rfl ?_
            obtain ⟨o615, eo615, e⟩ := mm_bind e
            refine mm_T.call (t := 267) (as := [(.ref 62)]) (f' := (79, [some (.ref 62), some (.int x1), some (.int x2)], [])) rfl (tX12_act (d + 0) n o601 J rv sp rr w nw o615 eo615) (fun v h hq => ?_)
            obtain ⟨rfl, rfl⟩ := hq
            refine mm_T.seg (f' := (88, [some (.ref 62), some (.int x1), some (.int x2)], [(.int x2), (.int (20 + x1)), (.ref 85)])) (h' := (107, o615, J, mm_rf rv sp rr w nw)) 6 rfl ?_
            by_cases h616 : (20 + x1) < 0 ∨ 28 ≤ (20 + x1).toNatClampNeg
            · rw [if_pos h616] at e; cases e
            rw [if_neg h616] at e
            refine mm_T.guard (y := ((89, [some (.ref 62), some (.int x1), some (.int x2)], []), (107, (mm_up o615 85 (20 + x1).toNatClampNeg x2), J, mm_rf rv sp rr w nw))) rfl h616 ?_
            refine mm_T.seg (f' := (90, [some (.ref 62), some (.int x1), some (.int x2)], [(.ref 62)])) (h' := (107, (mm_up o615 85 (20 + x1).toNatClampNeg x2), J, mm_rf rv sp rr w nw)) 1 rfl ?_
            obtain ⟨o617, eo617, e⟩ := mm_bind e
            refine mm_T.call (t := 257) (as := [(.ref 62)]) (f' := (93, [some (.ref 62), some (.int x1), some (.int x2)], [])) rfl (tX12_keepAir (d + 1) n (mm_up o615 85 (20 + x1).toNatClampNeg x2) J rv sp rr w nw o617 eo617) (fun v h hq => ?_)
            obtain ⟨rfl, rfl⟩ := hq
            refine mm_T.seg (f' := (95, [some (.ref 62), some (.int x1), some (.int x2)], [(.int x2), (.ref 62)])) (h' := (107, o617, J, mm_rf rv sp rr w nw)) 2 rfl ?_
            obtain ⟨o618, eo618, e⟩ := mm_bind e
            refine mm_T.call (t := 240) (as := [(.ref 62), (.int x2)]) (f' := (98, [some (.ref 62), some (.int x1), some (.int x2)], [])) rfl (tX12_burdenOf (d + 1) n x2 o617 J rv sp rr w nw o618 eo618) (fun v h hq => ?_)
            obtain ⟨rfl, rfl⟩ := hq
            cases e
            exact mm_T.ret rfl ⟨rfl, rfl⟩
        · rw [if_neg h610] at e
          refine mm_T.seg (f' := (74, [some (.ref 62), some (.int x1), some (.int x2)], [(.int (-1))])) (h' := (107, o601, J, mm_rf rv sp rr w nw)) 1 rfl ?_
          cases e
          exact mm_T.ret rfl ⟨rfl, rfl⟩
def fX12_take (n : Nat) (x1 : Int32) (I : Nat → Nat → Int32) : Option (Int32 × (Nat → Nat → Int32)) := (fX12_isLoad x1 I).bind fun o619 => (if o619 = 0 then some ((-1), I) else (if (20 + x1) < 0 ∨ 28 ≤ (20 + x1).toNatClampNeg then none else (if (I 84 (20 + x1).toNatClampNeg) < 0 then some ((-1), I) else (if (20 + x1) < 0 ∨ 28 ≤ (20 + x1).toNatClampNeg then none else (fX12_isAtBank (I 84 (20 + x1).toNatClampNeg) I).bind fun o624 => (if o624 = 0 then some ((-1), I) else (fX12_act n I).bind fun o626 => (if (20 + x1) < 0 ∨ 28 ≤ (20 + x1).toNatClampNeg then none else (if (4 + (o626 84 (20 + x1).toNatClampNeg)) < 0 ∨ 28 ≤ (4 + (o626 84 (20 + x1).toNatClampNeg)).toNatClampNeg then none else (if (20 + x1) < 0 ∨ 28 ≤ (20 + x1).toNatClampNeg then none else some ((o626 84 (20 + x1).toNatClampNeg), (mm_up o626 84 (20 + x1).toNatClampNeg (fX12_bankOf (o626 84 (4 + (o626 84 (20 + x1).toNatClampNeg)).toNatClampNeg))))))))))))
set_option maxRecDepth 100000 in
set_option maxHeartbeats 4000000 in
theorem tX12_take (d n : Nat) (x1 : Int32) (I : Nat → Nat → Int32) (J : Nat → Nat → Int64) (rv sp rr w nw : Nat) (out : Int32 × (Nat → Nat → Int32)) (e : fX12_take n x1 I = some out) : mm_T none (d + 2) 273 (mm_ent 273 [(.ref 62), (.int x1)]) (107, I, J, mm_rf rv sp rr w nw) (fun v h => v = some (.int out.1) ∧ h = (107, out.2, J, mm_rf rv sp rr w nw)) := by
  unfold fX12_take at e
  refine mm_T.seg (f' := (2, [some (.ref 62), some (.int x1), none], [(.int x1), (.ref 62)])) (h' := (107, I, J, mm_rf rv sp rr w nw)) 2 rfl ?_
  obtain ⟨o619, eo619, e⟩ := mm_bind e
  refine mm_T.call (t := 254) (as := [(.ref 62), (.int x1)]) (f' := (5, [some (.ref 62), some (.int x1), none], [])) rfl (tX12_isLoad (d + 0) x1 I J rv sp rr w nw o619 eo619) (fun v h hq => ?_)
  obtain ⟨rfl, rfl⟩ := hq
  refine mm_T.br (c := o619 = 0) (a := ((36, [some (.ref 62), some (.int x1), none], []), (107, I, J, mm_rf rv sp rr w nw))) (b := ((8, [some (.ref 62), some (.int x1), none], []), (107, I, J, mm_rf rv sp rr w nw))) rfl (fun h620 => ?_) (fun h620 => ?_)
  · rw [if_pos h620] at e
    refine mm_T.seg (f' := (37, [some (.ref 62), some (.int x1), none], [(.int (-1))])) (h' := (107, I, J, mm_rf rv sp rr w nw)) 1 rfl ?_
    cases e
    exact mm_T.ret rfl ⟨rfl, rfl⟩
  · rw [if_neg h620] at e
    refine mm_T.seg (f' := (16, [some (.ref 62), some (.int x1), none], [(.int (20 + x1)), (.ref 84)])) (h' := (107, I, J, mm_rf rv sp rr w nw)) 5 rfl ?_
    by_cases h621 : (20 + x1) < 0 ∨ 28 ≤ (20 + x1).toNatClampNeg
    · rw [if_pos h621] at e; cases e
    rw [if_neg h621] at e
    refine mm_T.guard (y := ((17, [some (.ref 62), some (.int x1), none], [(.int (I 84 (20 + x1).toNatClampNeg))]), (107, I, J, mm_rf rv sp rr w nw))) rfl h621 ?_
    refine mm_T.br (c := (I 84 (20 + x1).toNatClampNeg) < 0) (a := ((36, [some (.ref 62), some (.int x1), none], []), (107, I, J, mm_rf rv sp rr w nw))) (b := ((20, [some (.ref 62), some (.int x1), none], []), (107, I, J, mm_rf rv sp rr w nw))) rfl (fun h622 => ?_) (fun h622 => ?_)
    · rw [if_pos h622] at e
      refine mm_T.seg (f' := (37, [some (.ref 62), some (.int x1), none], [(.int (-1))])) (h' := (107, I, J, mm_rf rv sp rr w nw)) 1 rfl ?_
      cases e
      exact mm_T.ret rfl ⟨rfl, rfl⟩
    · rw [if_neg h622] at e
      refine mm_T.seg (f' := (29, [some (.ref 62), some (.int x1), none], [(.int (20 + x1)), (.ref 84), (.ref 62)])) (h' := (107, I, J, mm_rf rv sp rr w nw)) 6 rfl ?_
      by_cases h623 : (20 + x1) < 0 ∨ 28 ≤ (20 + x1).toNatClampNeg
      · rw [if_pos h623] at e; cases e
      rw [if_neg h623] at e
      refine mm_T.guard (y := ((30, [some (.ref 62), some (.int x1), none], [(.int (I 84 (20 + x1).toNatClampNeg)), (.ref 62)]), (107, I, J, mm_rf rv sp rr w nw))) rfl h623 ?_
      obtain ⟨o624, eo624, e⟩ := mm_bind e
      refine mm_T.call (t := 270) (as := [(.ref 62), (.int (I 84 (20 + x1).toNatClampNeg))]) (f' := (33, [some (.ref 62), some (.int x1), none], [])) rfl (tX12_isAtBank (d + 1) (I 84 (20 + x1).toNatClampNeg) I J rv sp rr w nw o624 eo624) (fun v h hq => ?_)
      obtain ⟨rfl, rfl⟩ := hq
      refine mm_T.br (c := o624 = 0) (a := ((36, [some (.ref 62), some (.int x1), none], []), (107, I, J, mm_rf rv sp rr w nw))) (b := ((38, [some (.ref 62), some (.int x1), none], []), (107, I, J, mm_rf rv sp rr w nw))) rfl (fun h625 => ?_) (fun h625 => ?_)
      · rw [if_pos h625] at e
        refine mm_T.seg (f' := (37, [some (.ref 62), some (.int x1), none], [(.int (-1))])) (h' := (107, I, J, mm_rf rv sp rr w nw)) 1 rfl ?_
        cases e
        exact mm_T.ret rfl ⟨rfl, rfl⟩
      · rw [if_neg h625] at e
        refine mm_T.seg (f' := (39, [some (.ref 62), some (.int x1), none], [(.ref 62)])) (h' := (107, I, J, mm_rf rv sp rr w nw)) 1 rfl ?_
        obtain ⟨o626, eo626, e⟩ := mm_bind e
        refine mm_T.call (t := 267) (as := [(.ref 62)]) (f' := (42, [some (.ref 62), some (.int x1), none], [])) rfl (tX12_act (d + 0) n I J rv sp rr w nw o626 eo626) (fun v h hq => ?_)
        obtain ⟨rfl, rfl⟩ := hq
        refine mm_T.seg (f' := (50, [some (.ref 62), some (.int x1), none], [(.int (20 + x1)), (.ref 84)])) (h' := (107, o626, J, mm_rf rv sp rr w nw)) 5 rfl ?_
        by_cases h627 : (20 + x1) < 0 ∨ 28 ≤ (20 + x1).toNatClampNeg
        · rw [if_pos h627] at e; cases e
        rw [if_neg h627] at e
        refine mm_T.guard (y := ((51, [some (.ref 62), some (.int x1), none], [(.int (o626 84 (20 + x1).toNatClampNeg))]), (107, o626, J, mm_rf rv sp rr w nw))) rfl h627 ?_
        refine mm_T.seg (f' := (68, [some (.ref 62), some (.int x1), some (.int (o626 84 (20 + x1).toNatClampNeg))], [(.int (4 + (o626 84 (20 + x1).toNatClampNeg))), (.ref 84), (.ref 62), (.int (20 + x1)), (.ref 84)])) (h' := (107, o626, J, mm_rf rv sp rr w nw)) 12 rfl ?_
        by_cases h628 : (4 + (o626 84 (20 + x1).toNatClampNeg)) < 0 ∨ 28 ≤ (4 + (o626 84 (20 + x1).toNatClampNeg)).toNatClampNeg
        · rw [if_pos h628] at e; cases e
        rw [if_neg h628] at e
        refine mm_T.guard (y := ((69, [some (.ref 62), some (.int x1), some (.int (o626 84 (20 + x1).toNatClampNeg))], [(.int (o626 84 (4 + (o626 84 (20 + x1).toNatClampNeg)).toNatClampNeg)), (.ref 62), (.int (20 + x1)), (.ref 84)]), (107, o626, J, mm_rf rv sp rr w nw))) rfl h628 ?_
        refine mm_T.call (t := 271) (as := [(.ref 62), (.int (o626 84 (4 + (o626 84 (20 + x1).toNatClampNeg)).toNatClampNeg))]) (f' := (72, [some (.ref 62), some (.int x1), some (.int (o626 84 (20 + x1).toNatClampNeg))], [(.int (20 + x1)), (.ref 84)])) rfl (tX12_bankOf (d + 1) (o626 84 (4 + (o626 84 (20 + x1).toNatClampNeg)).toNatClampNeg) o626 J rv sp rr w nw _ rfl) (fun v h hq => ?_)
        obtain ⟨rfl, rfl⟩ := hq
        by_cases h629 : (20 + x1) < 0 ∨ 28 ≤ (20 + x1).toNatClampNeg
        · rw [if_pos h629] at e; cases e
        rw [if_neg h629] at e
        refine mm_T.guard (y := ((73, [some (.ref 62), some (.int x1), some (.int (o626 84 (20 + x1).toNatClampNeg))], []), (107, (mm_up o626 84 (20 + x1).toNatClampNeg (fX12_bankOf (o626 84 (4 + (o626 84 (20 + x1).toNatClampNeg)).toNatClampNeg))), J, mm_rf rv sp rr w nw))) rfl h629 ?_
        refine mm_T.seg (f' := (74, [some (.ref 62), some (.int x1), some (.int (o626 84 (20 + x1).toNatClampNeg))], [(.int (o626 84 (20 + x1).toNatClampNeg))])) (h' := (107, (mm_up o626 84 (20 + x1).toNatClampNeg (fX12_bankOf (o626 84 (4 + (o626 84 (20 + x1).toNatClampNeg)).toNatClampNeg))), J, mm_rf rv sp rr w nw)) 1 rfl ?_
        cases e
        exact mm_T.ret rfl ⟨rfl, rfl⟩
def fX12_cool (n : Nat) (x1 : Int32) (x2 : Int32) (I : Nat → Nat → Int32) : Option (Int32 × (Nat → Nat → Int32)) := (fX12_isBoard x1 I).bind fun o630 => (if o630 = 0 then some ((-1), I) else (if (fX12_isIn x2 1 9) = 0 then some ((-1), I) else (fX12_act n I).bind fun o633 => (if (8 + x1) < 0 ∨ 28 ≤ (8 + x1).toNatClampNeg then none else (if (8 + x1) < 0 ∨ 28 ≤ (8 + x1).toNatClampNeg then none else (if (8 + x1) < 0 ∨ 28 ≤ (8 + x1).toNatClampNeg then none else some (((mm_up o633 84 (8 + x1).toNatClampNeg (fX12_within ((o633 84 (8 + x1).toNatClampNeg) - x2) 99)) 84 (8 + x1).toNatClampNeg), (mm_up o633 84 (8 + x1).toNatClampNeg (fX12_within ((o633 84 (8 + x1).toNatClampNeg) - x2) 99))))))))
set_option maxRecDepth 100000 in
set_option maxHeartbeats 4000000 in
theorem tX12_cool (d n : Nat) (x1 : Int32) (x2 : Int32) (I : Nat → Nat → Int32) (J : Nat → Nat → Int64) (rv sp rr w nw : Nat) (out : Int32 × (Nat → Nat → Int32)) (e : fX12_cool n x1 x2 I = some out) : mm_T none (d + 2) 274 (mm_ent 274 [(.ref 62), (.int x1), (.int x2)]) (107, I, J, mm_rf rv sp rr w nw) (fun v h => v = some (.int out.1) ∧ h = (107, out.2, J, mm_rf rv sp rr w nw)) := by
  unfold fX12_cool at e
  refine mm_T.seg (f' := (2, [some (.ref 62), some (.int x1), some (.int x2)], [(.int x1), (.ref 62)])) (h' := (107, I, J, mm_rf rv sp rr w nw)) 2 rfl ?_
  obtain ⟨o630, eo630, e⟩ := mm_bind e
  refine mm_T.call (t := 253) (as := [(.ref 62), (.int x1)]) (f' := (5, [some (.ref 62), some (.int x1), some (.int x2)], [])) rfl (tX12_isBoard (d + 0) x1 I J rv sp rr w nw o630 eo630) (fun v h hq => ?_)
  obtain ⟨rfl, rfl⟩ := hq
  refine mm_T.br (c := o630 = 0) (a := ((18, [some (.ref 62), some (.int x1), some (.int x2)], []), (107, I, J, mm_rf rv sp rr w nw))) (b := ((8, [some (.ref 62), some (.int x1), some (.int x2)], []), (107, I, J, mm_rf rv sp rr w nw))) rfl (fun h631 => ?_) (fun h631 => ?_)
  · rw [if_pos h631] at e
    refine mm_T.seg (f' := (19, [some (.ref 62), some (.int x1), some (.int x2)], [(.int (-1))])) (h' := (107, I, J, mm_rf rv sp rr w nw)) 1 rfl ?_
    cases e
    exact mm_T.ret rfl ⟨rfl, rfl⟩
  · rw [if_neg h631] at e
    refine mm_T.seg (f' := (12, [some (.ref 62), some (.int x1), some (.int x2)], [(.int 9), (.int 1), (.int x2)])) (h' := (107, I, J, mm_rf rv sp rr w nw)) 3 rfl ?_
    refine mm_T.call (t := 252) (as := [(.int x2), (.int 1), (.int 9)]) (f' := (15, [some (.ref 62), some (.int x1), some (.int x2)], [])) rfl (tX12_isIn (d + 1) x2 1 9 I J rv sp rr w nw _ rfl) (fun v h hq => ?_)
    obtain ⟨rfl, rfl⟩ := hq
    refine mm_T.br (c := (fX12_isIn x2 1 9) = 0) (a := ((18, [some (.ref 62), some (.int x1), some (.int x2)], []), (107, I, J, mm_rf rv sp rr w nw))) (b := ((20, [some (.ref 62), some (.int x1), some (.int x2)], []), (107, I, J, mm_rf rv sp rr w nw))) rfl (fun h632 => ?_) (fun h632 => ?_)
    · rw [if_pos h632] at e
      refine mm_T.seg (f' := (19, [some (.ref 62), some (.int x1), some (.int x2)], [(.int (-1))])) (h' := (107, I, J, mm_rf rv sp rr w nw)) 1 rfl ?_
      cases e
      exact mm_T.ret rfl ⟨rfl, rfl⟩
    · rw [if_neg h632] at e
      refine mm_T.seg (f' := (21, [some (.ref 62), some (.int x1), some (.int x2)], [(.ref 62)])) (h' := (107, I, J, mm_rf rv sp rr w nw)) 1 rfl ?_
      obtain ⟨o633, eo633, e⟩ := mm_bind e
      refine mm_T.call (t := 267) (as := [(.ref 62)]) (f' := (24, [some (.ref 62), some (.int x1), some (.int x2)], [])) rfl (tX12_act (d + 0) n I J rv sp rr w nw o633 eo633) (fun v h hq => ?_)
      obtain ⟨rfl, rfl⟩ := hq
      refine mm_T.seg (f' := (40, [some (.ref 62), some (.int x1), some (.int x2)], [(.int (8 + x1)), (.ref 84), (.int (8 + x1)), (.ref 84)])) (h' := (107, o633, J, mm_rf rv sp rr w nw)) 10 rfl ?_
      by_cases h634 : (8 + x1) < 0 ∨ 28 ≤ (8 + x1).toNatClampNeg
      · rw [if_pos h634] at e; cases e
      rw [if_neg h634] at e
      refine mm_T.guard (y := ((41, [some (.ref 62), some (.int x1), some (.int x2)], [(.int (o633 84 (8 + x1).toNatClampNeg)), (.int (8 + x1)), (.ref 84)]), (107, o633, J, mm_rf rv sp rr w nw))) rfl h634 ?_
      refine mm_T.seg (f' := (45, [some (.ref 62), some (.int x1), some (.int x2)], [(.int 99), (.int ((o633 84 (8 + x1).toNatClampNeg) - x2)), (.int (8 + x1)), (.ref 84)])) (h' := (107, o633, J, mm_rf rv sp rr w nw)) 3 rfl ?_
      refine mm_T.call (t := 238) (as := [(.int ((o633 84 (8 + x1).toNatClampNeg) - x2)), (.int 99)]) (f' := (48, [some (.ref 62), some (.int x1), some (.int x2)], [(.int (8 + x1)), (.ref 84)])) rfl (tX12_within (d + 1) ((o633 84 (8 + x1).toNatClampNeg) - x2) 99 o633 J rv sp rr w nw _ rfl) (fun v h hq => ?_)
      obtain ⟨rfl, rfl⟩ := hq
      by_cases h635 : (8 + x1) < 0 ∨ 28 ≤ (8 + x1).toNatClampNeg
      · rw [if_pos h635] at e; cases e
      rw [if_neg h635] at e
      refine mm_T.guard (y := ((49, [some (.ref 62), some (.int x1), some (.int x2)], []), (107, (mm_up o633 84 (8 + x1).toNatClampNeg (fX12_within ((o633 84 (8 + x1).toNatClampNeg) - x2) 99)), J, mm_rf rv sp rr w nw))) rfl h635 ?_
      refine mm_T.seg (f' := (57, [some (.ref 62), some (.int x1), some (.int x2)], [(.int (8 + x1)), (.ref 84)])) (h' := (107, (mm_up o633 84 (8 + x1).toNatClampNeg (fX12_within ((o633 84 (8 + x1).toNatClampNeg) - x2) 99)), J, mm_rf rv sp rr w nw)) 5 rfl ?_
      by_cases h636 : (8 + x1) < 0 ∨ 28 ≤ (8 + x1).toNatClampNeg
      · rw [if_pos h636] at e; cases e
      rw [if_neg h636] at e
      refine mm_T.guard (y := ((58, [some (.ref 62), some (.int x1), some (.int x2)], [(.int ((mm_up o633 84 (8 + x1).toNatClampNeg (fX12_within ((o633 84 (8 + x1).toNatClampNeg) - x2) 99)) 84 (8 + x1).toNatClampNeg))]), (107, (mm_up o633 84 (8 + x1).toNatClampNeg (fX12_within ((o633 84 (8 + x1).toNatClampNeg) - x2) 99)), J, mm_rf rv sp rr w nw))) rfl h636 ?_
      cases e
      exact mm_T.ret rfl ⟨rfl, rfl⟩
def fX12_undo (n : Nat) (I : Nat → Nat → Int32) : Option (Int32 × (Nat → Nat → Int32)) := (if (I 62 57) = 0 then some (0, I) else (fX12_exchange n (28 * ((I 62 57) - 1)) (mm_up (mm_up I 62 57 ((I 62 57) - 1)) 62 58 ((I 62 58) + 1))).bind fun o638 => some (1, o638))
set_option maxRecDepth 100000 in
set_option maxHeartbeats 4000000 in
theorem tX12_undo (d n : Nat) (I : Nat → Nat → Int32) (J : Nat → Nat → Int64) (rv sp rr w nw : Nat) (out : Int32 × (Nat → Nat → Int32)) (e : fX12_undo n I = some out) : mm_T none (d + 1) 275 (mm_ent 275 [(.ref 62)]) (107, I, J, mm_rf rv sp rr w nw) (fun v h => v = some (.int out.1) ∧ h = (107, out.2, J, mm_rf rv sp rr w nw)) := by
  unfold fX12_undo at e
  refine mm_T.seg (f' := (4, [some (.ref 62)], [(.int (I 62 57))])) (h' := (107, I, J, mm_rf rv sp rr w nw)) 2 rfl ?_
  refine mm_T.br (c := (I 62 57) = 0) (a := ((7, [some (.ref 62)], []), (107, I, J, mm_rf rv sp rr w nw))) (b := ((9, [some (.ref 62)], []), (107, I, J, mm_rf rv sp rr w nw))) rfl (fun h637 => ?_) (fun h637 => ?_)
  · rw [if_pos h637] at e
    refine mm_T.seg (f' := (8, [some (.ref 62)], [(.int 0)])) (h' := (107, I, J, mm_rf rv sp rr w nw)) 1 rfl ?_
    cases e
    exact mm_T.ret rfl ⟨rfl, rfl⟩
  · rw [if_neg h637] at e
    refine mm_T.seg (f' := (37, [some (.ref 62)], [(.int (28 * ((I 62 57) - 1))), (.ref 62)])) (h' := (107, (mm_up (mm_up I 62 57 ((I 62 57) - 1)) 62 58 ((I 62 58) + 1)), J, mm_rf rv sp rr w nw)) 17 rfl ?_
    obtain ⟨o638, eo638, e⟩ := mm_bind e
    refine mm_T.call (t := 268) (as := [(.ref 62), (.int (28 * ((I 62 57) - 1)))]) (f' := (40, [some (.ref 62)], [])) rfl (tX12_exchange (d + 0) n (28 * ((I 62 57) - 1)) (mm_up (mm_up I 62 57 ((I 62 57) - 1)) 62 58 ((I 62 58) + 1)) J rv sp rr w nw o638 eo638) (fun v h hq => ?_)
    obtain ⟨rfl, rfl⟩ := hq
    refine mm_T.seg (f' := (41, [some (.ref 62)], [(.int 1)])) (h' := (107, o638, J, mm_rf rv sp rr w nw)) 1 rfl ?_
    cases e
    exact mm_T.ret rfl ⟨rfl, rfl⟩
def fX12_redo (n : Nat) (I : Nat → Nat → Int32) : Option (Int32 × (Nat → Nat → Int32)) := (if (I 62 58) = 0 then some (0, I) else (fX12_exchange n (28 * (I 62 57)) I).bind fun o640 => some (1, (mm_up (mm_up o640 62 57 ((o640 62 57) + 1)) 62 58 ((o640 62 58) - 1))))
set_option maxRecDepth 100000 in
set_option maxHeartbeats 4000000 in
theorem tX12_redo (d n : Nat) (I : Nat → Nat → Int32) (J : Nat → Nat → Int64) (rv sp rr w nw : Nat) (out : Int32 × (Nat → Nat → Int32)) (e : fX12_redo n I = some out) : mm_T none (d + 1) 276 (mm_ent 276 [(.ref 62)]) (107, I, J, mm_rf rv sp rr w nw) (fun v h => v = some (.int out.1) ∧ h = (107, out.2, J, mm_rf rv sp rr w nw)) := by
  unfold fX12_redo at e
  refine mm_T.seg (f' := (4, [some (.ref 62)], [(.int (I 62 58))])) (h' := (107, I, J, mm_rf rv sp rr w nw)) 2 rfl ?_
  refine mm_T.br (c := (I 62 58) = 0) (a := ((7, [some (.ref 62)], []), (107, I, J, mm_rf rv sp rr w nw))) (b := ((9, [some (.ref 62)], []), (107, I, J, mm_rf rv sp rr w nw))) rfl (fun h639 => ?_) (fun h639 => ?_)
  · rw [if_pos h639] at e
    refine mm_T.seg (f' := (8, [some (.ref 62)], [(.int 0)])) (h' := (107, I, J, mm_rf rv sp rr w nw)) 1 rfl ?_
    cases e
    exact mm_T.ret rfl ⟨rfl, rfl⟩
  · rw [if_neg h639] at e
    refine mm_T.seg (f' := (17, [some (.ref 62)], [(.int (28 * (I 62 57))), (.ref 62)])) (h' := (107, I, J, mm_rf rv sp rr w nw)) 5 rfl ?_
    obtain ⟨o640, eo640, e⟩ := mm_bind e
    refine mm_T.call (t := 268) (as := [(.ref 62), (.int (28 * (I 62 57)))]) (f' := (20, [some (.ref 62)], [])) rfl (tX12_exchange (d + 0) n (28 * (I 62 57)) I J rv sp rr w nw o640 eo640) (fun v h hq => ?_)
    obtain ⟨rfl, rfl⟩ := hq
    refine mm_T.seg (f' := (41, [some (.ref 62)], [(.int 1)])) (h' := (107, (mm_up (mm_up o640 62 57 ((o640 62 57) + 1)) 62 58 ((o640 62 58) - 1)), J, mm_rf rv sp rr w nw)) 13 rfl ?_
    cases e
    exact mm_T.ret rfl ⟨rfl, rfl⟩
def fX12_power_L4 (n : Nat) (y0 : Int32) (y1 : Int32) (y2 : Int32) (y3 : Int32) : Option (Int32) := match n with
  | 0 => none
  | n + 1 => (if y3 < y1 then fX12_power_L4 n y0 y1 (y2 * y0) (y3 + 1) else some y2)
def fX12_power (n : Nat) (x0 : Int32) (x1 : Int32) : Option (Int32) := (fX12_power_L4 n x0 x1 1 0).bind fun o642 => some o642
set_option maxRecDepth 100000 in
set_option maxHeartbeats 4000000 in
theorem tlX12_power_L4 (d : Nat) (Q : Option Value → mm_H → Prop) : ∀ (n : Nat) (y0 : Int32) (y1 : Int32) (y2 : Int32) (y3 : Int32) (I : Nat → Nat → Int32) (J : Nat → Nat → Int64) (rv sp rr w nw : Nat), ∀ (out : Int32), fX12_power_L4 n y0 y1 y2 y3 = some out → mm_T none (d + 0) 277 (19, [none, none, some (.int out), none], []) (107, I, J, mm_rf rv sp rr w nw) Q → mm_T none (d + 0) 277 (4, [some (.int y0), some (.int y1), some (.int y2), some (.int y3)], []) (107, I, J, mm_rf rv sp rr w nw) Q := by
  intro n
  induction n with
  | zero =>
    intro y0 y1 y2 y3 I J rv sp rr w nw out e k
    rw [fX12_power_L4] at e; cases e
  | succ n ih =>
    intro y0 y1 y2 y3 I J rv sp rr w nw out e k
    rw [fX12_power_L4] at e
    refine mm_T.seg (f' := (6, [some (.int y0), some (.int y1), some (.int y2), some (.int y3)], [(.int y1), (.int y3)])) (h' := (107, I, J, mm_rf rv sp rr w nw)) 2 rfl ?_
    refine mm_T.br (c := y3 < y1) (a := ((9, [some (.int y0), some (.int y1), some (.int y2), some (.int y3)], []), (107, I, J, mm_rf rv sp rr w nw))) (b := ((19, [some (.int y0), some (.int y1), some (.int y2), some (.int y3)], []), (107, I, J, mm_rf rv sp rr w nw))) rfl (fun h641 => ?_) (fun h641 => ?_)
    · rw [if_pos h641] at e
      refine mm_T.seg (f' := (4, [some (.int y0), some (.int y1), some (.int (y2 * y0)), some (.int (y3 + 1))], [])) (h' := (107, I, J, mm_rf rv sp rr w nw)) 6 rfl ?_
      refine mm_T.mask [true, true, true, true] ?_
      exact ih y0 y1 (y2 * y0) (y3 + 1) I J rv sp rr w nw out e k
    · rw [if_neg h641] at e
      cases e
      refine mm_T.mask [false, false, true, false] ?_
      exact k
set_option maxRecDepth 100000 in
set_option maxHeartbeats 4000000 in
theorem tX12_power (d n : Nat) (x0 : Int32) (x1 : Int32) (I : Nat → Nat → Int32) (J : Nat → Nat → Int64) (rv sp rr w nw : Nat) (out : Int32) (e : fX12_power n x0 x1 = some out) : mm_T none (d + 0) 277 (mm_ent 277 [(.int x0), (.int x1)]) (107, I, J, mm_rf rv sp rr w nw) (fun v h => v = some (.int out) ∧ h = (107, I, J, mm_rf rv sp rr w nw)) := by
  unfold fX12_power at e
  refine mm_T.seg (f' := (4, [some (.int x0), some (.int x1), some (.int 1), some (.int 0)], [])) (h' := (107, I, J, mm_rf rv sp rr w nw)) 4 rfl ?_
  refine mm_T.mask [true, true, true, true] ?_
  obtain ⟨o642, eo642, e⟩ := mm_bind e
  refine tlX12_power_L4 d _ n x0 x1 1 0 I J rv sp rr w nw o642 eo642 ?_
  refine mm_T.seg (f' := (20, [none, none, some (.int o642), none], [(.int o642)])) (h' := (107, I, J, mm_rf rv sp rr w nw)) 1 rfl ?_
  cases e
  exact mm_T.ret rfl ⟨rfl, rfl⟩
def fX12_leftOf (x1 : Int32) (I : Nat → Nat → Int32) : Option (Int32) := (if (4 + x1) < 0 ∨ 28 ≤ (4 + x1).toNatClampNeg then none else some ((I 62 47) - (I 84 (4 + x1).toNatClampNeg)))
set_option maxRecDepth 100000 in
set_option maxHeartbeats 4000000 in
theorem tX12_leftOf (d : Nat) (x1 : Int32) (I : Nat → Nat → Int32) (J : Nat → Nat → Int64) (rv sp rr w nw : Nat) (out : Int32) (e : fX12_leftOf x1 I = some out) : mm_T none (d + 0) 278 (mm_ent 278 [(.ref 62), (.int x1)]) (107, I, J, mm_rf rv sp rr w nw) (fun v h => v = some (.int out) ∧ h = (107, I, J, mm_rf rv sp rr w nw)) := by
  unfold fX12_leftOf at e
  refine mm_T.seg (f' := (11, [some (.ref 62), some (.int x1)], [(.int (4 + x1)), (.ref 84), (.int (I 62 47))])) (h' := (107, I, J, mm_rf rv sp rr w nw)) 7 rfl ?_
  by_cases h643 : (4 + x1) < 0 ∨ 28 ≤ (4 + x1).toNatClampNeg
  · rw [if_pos h643] at e; cases e
  rw [if_neg h643] at e
  refine mm_T.guard (y := ((12, [some (.ref 62), some (.int x1)], [(.int (I 84 (4 + x1).toNatClampNeg)), (.int (I 62 47))]), (107, I, J, mm_rf rv sp rr w nw))) rfl h643 ?_
  refine mm_T.seg (f' := (13, [some (.ref 62), some (.int x1)], [(.int ((I 62 47) - (I 84 (4 + x1).toNatClampNeg)))])) (h' := (107, I, J, mm_rf rv sp rr w nw)) 1 rfl ?_
  cases e
  exact mm_T.ret rfl ⟨rfl, rfl⟩
def fX12_goRow_L18 (n : Nat) (y1 : Int32) (y3 : Int32) (y4 : Int32) (y5 : Int32) (I : Nat → Nat → Int32) : Option ((Nat → Nat → Int32)) := match n with
  | 0 => none
  | n + 1 => (if y5 < 0 then some I else (if y5 < 0 ∨ 6 ≤ y5.toNatClampNeg then none else fX12_goRow_L18 n y1 y3 (y4 / 3) (y5 + (-1)) (mm_up I 87 y5.toNatClampNeg ((y4 - y4 / 3 * 3) - 1))))
def fX12_goRow_L54 (n : Nat) (y1 : Int32) (y3 : Int32) (y5 : Int32) (y6 : Int32) (I : Nat → Nat → Int32) : Option (Int32 × (Nat → Nat → Int32)) := match n with
  | 0 => none
  | n + 1 => (if y6 < y3 then (if y5 = 0 then some (y5, I) else (if y6 < 0 ∨ 6 ≤ y6.toNatClampNeg then none else (fX12_goStroke n y1 (I 87 y6.toNatClampNeg) 1 1 I).bind fun o652 => (if (o652.1 - o652.1 / 2 * 2) = 0 then fX12_goRow_L54 n y1 y3 1 (y6 + 1) o652.2 else fX12_goRow_L54 n y1 y3 0 (y6 + 1) o652.2))) else some (y5, I))
def fX12_goRow (n : Nat) (x1 : Int32) (x2 : Int32) (I : Nat → Nat → Int32) : Option (Int32 × (Nat → Nat → Int32)) := (fX12_fill n I).bind fun o644 => (fX12_leftOf x1 o644).bind fun o645 => (fX12_goRow_L18 n x1 o645 x2 (o645 - 1) o644).bind fun o648 => (fX12_goRow_L54 n x1 o645 1 0 o648).bind fun o654 => (if o654.1 = 0 ∨ o654.1 = 1 then some (o654.1, o654.2) else none)
set_option maxRecDepth 100000 in
set_option maxHeartbeats 4000000 in
theorem tlX12_goRow_L18 (d : Nat) (Q : Option Value → mm_H → Prop) : ∀ (n : Nat) (y1 : Int32) (y3 : Int32) (y4 : Int32) (y5 : Int32) (I : Nat → Nat → Int32) (J : Nat → Nat → Int64) (rv sp rr w nw : Nat), ∀ (out : (Nat → Nat → Int32)), fX12_goRow_L18 n y1 y3 y4 y5 I = some out → mm_T none (d + 4) 279 (48, [some (.ref 62), some (.int y1), none, some (.int y3), none, none, none], []) (107, out, J, mm_rf rv sp rr w nw) Q → mm_T none (d + 4) 279 (18, [some (.ref 62), some (.int y1), none, some (.int y3), some (.int y4), some (.int y5), none], []) (107, I, J, mm_rf rv sp rr w nw) Q := by
  intro n
  induction n with
  | zero =>
    intro y1 y3 y4 y5 I J rv sp rr w nw out e k
    rw [fX12_goRow_L18] at e; cases e
  | succ n ih =>
    intro y1 y3 y4 y5 I J rv sp rr w nw out e k
    rw [fX12_goRow_L18] at e
    refine mm_T.seg (f' := (20, [some (.ref 62), some (.int y1), none, some (.int y3), some (.int y4), some (.int y5), none], [(.int y5)])) (h' := (107, I, J, mm_rf rv sp rr w nw)) 1 rfl ?_
    refine mm_T.br (c := y5 < 0) (a := ((48, [some (.ref 62), some (.int y1), none, some (.int y3), some (.int y4), some (.int y5), none], []), (107, I, J, mm_rf rv sp rr w nw))) (b := ((23, [some (.ref 62), some (.int y1), none, some (.int y3), some (.int y4), some (.int y5), none], []), (107, I, J, mm_rf rv sp rr w nw))) rfl (fun h646 => ?_) (fun h646 => ?_)
    · rw [if_pos h646] at e
      cases e
      refine mm_T.mask [true, true, false, true, false, false, false] ?_
      exact k
    · rw [if_neg h646] at e
      refine mm_T.seg (f' := (35, [some (.ref 62), some (.int y1), none, some (.int y3), some (.int y4), some (.int y5), none], [(.int ((y4 - y4 / 3 * 3) - 1)), (.int y5), (.ref 87)])) (h' := (107, I, J, mm_rf rv sp rr w nw)) 8 rfl ?_
      by_cases h647 : y5 < 0 ∨ 6 ≤ y5.toNatClampNeg
      · rw [if_pos h647] at e; cases e
      rw [if_neg h647] at e
      refine mm_T.guard (y := ((36, [some (.ref 62), some (.int y1), none, some (.int y3), some (.int y4), some (.int y5), none], []), (107, (mm_up I 87 y5.toNatClampNeg ((y4 - y4 / 3 * 3) - 1)), J, mm_rf rv sp rr w nw))) rfl h647 ?_
      refine mm_T.seg (f' := (18, [some (.ref 62), some (.int y1), none, some (.int y3), some (.int (y4 / 3)), some (.int (y5 + (-1))), none], [])) (h' := (107, (mm_up I 87 y5.toNatClampNeg ((y4 - y4 / 3 * 3) - 1)), J, mm_rf rv sp rr w nw)) 6 rfl ?_
      refine mm_T.mask [true, true, false, true, true, true, false] ?_
      exact ih y1 y3 (y4 / 3) (y5 + (-1)) (mm_up I 87 y5.toNatClampNeg ((y4 - y4 / 3 * 3) - 1)) J rv sp rr w nw out e k
set_option maxRecDepth 100000 in
set_option maxHeartbeats 4000000 in
theorem tlX12_goRow_L54 (d : Nat) (Q : Option Value → mm_H → Prop) : ∀ (n : Nat) (y1 : Int32) (y3 : Int32) (y5 : Int32) (y6 : Int32) (I : Nat → Nat → Int32) (J : Nat → Nat → Int64) (rv sp rr w nw : Nat), ∀ (out : Int32 × (Nat → Nat → Int32)), fX12_goRow_L54 n y1 y3 y5 y6 I = some out → mm_T none (d + 4) 279 (97, [none, none, none, none, none, some (.int out.1), none], []) (107, out.2, J, mm_rf rv sp rr w nw) Q → mm_T none (d + 4) 279 (54, [some (.ref 62), some (.int y1), none, some (.int y3), none, some (.int y5), some (.int y6)], []) (107, I, J, mm_rf rv sp rr w nw) Q := by
  intro n
  induction n with
  | zero =>
    intro y1 y3 y5 y6 I J rv sp rr w nw out e k
    rw [fX12_goRow_L54] at e; cases e
  | succ n ih =>
    intro y1 y3 y5 y6 I J rv sp rr w nw out e k
    rw [fX12_goRow_L54] at e
    refine mm_T.seg (f' := (57, [some (.ref 62), some (.int y1), none, some (.int y3), none, some (.int y5), some (.int y6)], [(.int y3), (.int y6)])) (h' := (107, I, J, mm_rf rv sp rr w nw)) 2 rfl ?_
    refine mm_T.br (c := y6 < y3) (a := ((60, [some (.ref 62), some (.int y1), none, some (.int y3), none, some (.int y5), some (.int y6)], []), (107, I, J, mm_rf rv sp rr w nw))) (b := ((97, [some (.ref 62), some (.int y1), none, some (.int y3), none, some (.int y5), some (.int y6)], []), (107, I, J, mm_rf rv sp rr w nw))) rfl (fun h649 => ?_) (fun h649 => ?_)
    · rw [if_pos h649] at e
      refine mm_T.seg (f' := (62, [some (.ref 62), some (.int y1), none, some (.int y3), none, some (.int y5), some (.int y6)], [(.int y5)])) (h' := (107, I, J, mm_rf rv sp rr w nw)) 1 rfl ?_
      refine mm_T.br (c := y5 = 0) (a := ((97, [some (.ref 62), some (.int y1), none, some (.int y3), none, some (.int y5), some (.int y6)], []), (107, I, J, mm_rf rv sp rr w nw))) (b := ((65, [some (.ref 62), some (.int y1), none, some (.int y3), none, some (.int y5), some (.int y6)], []), (107, I, J, mm_rf rv sp rr w nw))) rfl (fun h650 => ?_) (fun h650 => ?_)
      · rw [if_pos h650] at e
        cases e
        refine mm_T.mask [false, false, false, false, false, true, false] ?_
        exact k
      · rw [if_neg h650] at e
        refine mm_T.seg (f' := (73, [some (.ref 62), some (.int y1), none, some (.int y3), none, some (.int y5), some (.int y6)], [(.int y6), (.ref 87), (.int y1), (.ref 62)])) (h' := (107, I, J, mm_rf rv sp rr w nw)) 5 rfl ?_
        by_cases h651 : y6 < 0 ∨ 6 ≤ y6.toNatClampNeg
        · rw [if_pos h651] at e; cases e
        rw [if_neg h651] at e
        refine mm_T.guard (y := ((74, [some (.ref 62), some (.int y1), none, some (.int y3), none, some (.int y5), some (.int y6)], [(.int (I 87 y6.toNatClampNeg)), (.int y1), (.ref 62)]), (107, I, J, mm_rf rv sp rr w nw))) rfl h651 ?_
        refine mm_T.seg (f' := (76, [some (.ref 62), some (.int y1), none, some (.int y3), none, some (.int y5), some (.int y6)], [(.int 1), (.int 1), (.int (I 87 y6.toNatClampNeg)), (.int y1), (.ref 62)])) (h' := (107, I, J, mm_rf rv sp rr w nw)) 2 rfl ?_
        obtain ⟨o652, eo652, e⟩ := mm_bind e
        refine mm_T.call (t := 261) (as := [(.ref 62), (.int y1), (.int (I 87 y6.toNatClampNeg)), (.int 1), (.int 1)]) (f' := (79, [some (.ref 62), some (.int y1), none, some (.int y3), none, some (.int y5), some (.int y6)], [])) rfl (tX12_goStroke (d + 0) n y1 (I 87 y6.toNatClampNeg) 1 1 I J rv sp rr w nw o652 eo652) (fun v h hq => ?_)
        obtain ⟨rfl, rfl⟩ := hq
        refine mm_T.seg (f' := (81, [some (.ref 62), some (.int y1), none, some (.int y3), none, some (.int y5), some (.int y6)], [(.int (o652.1 - o652.1 / 2 * 2))])) (h' := (107, o652.2, J, mm_rf rv sp rr w nw)) 2 rfl ?_
        refine mm_T.br (c := (o652.1 - o652.1 / 2 * 2) = 0) (a := ((84, [some (.ref 62), some (.int y1), none, some (.int y3), none, some (.int y5), some (.int y6)], []), (107, o652.2, J, mm_rf rv sp rr w nw))) (b := ((88, [some (.ref 62), some (.int y1), none, some (.int y3), none, some (.int y5), some (.int y6)], []), (107, o652.2, J, mm_rf rv sp rr w nw))) rfl (fun h653 => ?_) (fun h653 => ?_)
        · rw [if_pos h653] at e
          refine mm_T.seg (f' := (54, [some (.ref 62), some (.int y1), none, some (.int y3), none, some (.int 1), some (.int (y6 + 1))], [])) (h' := (107, o652.2, J, mm_rf rv sp rr w nw)) 5 rfl ?_
          refine mm_T.mask [true, true, false, true, false, true, true] ?_
          exact ih y1 y3 1 (y6 + 1) o652.2 J rv sp rr w nw out e k
        · rw [if_neg h653] at e
          refine mm_T.seg (f' := (54, [some (.ref 62), some (.int y1), none, some (.int y3), none, some (.int 0), some (.int (y6 + 1))], [])) (h' := (107, o652.2, J, mm_rf rv sp rr w nw)) 4 rfl ?_
          refine mm_T.mask [true, true, false, true, false, true, true] ?_
          exact ih y1 y3 0 (y6 + 1) o652.2 J rv sp rr w nw out e k
    · rw [if_neg h649] at e
      cases e
      refine mm_T.mask [false, false, false, false, false, true, false] ?_
      exact k
set_option maxRecDepth 100000 in
set_option maxHeartbeats 4000000 in
theorem tX12_goRow (d n : Nat) (x1 : Int32) (x2 : Int32) (I : Nat → Nat → Int32) (J : Nat → Nat → Int64) (rv sp rr w nw : Nat) (out : Int32 × (Nat → Nat → Int32)) (e : fX12_goRow n x1 x2 I = some out) : mm_T none (d + 4) 279 (mm_ent 279 [(.ref 62), (.int x1), (.int x2)]) (107, I, J, mm_rf rv sp rr w nw) (fun v h => v = some (.int out.1) ∧ h = (107, out.2, J, mm_rf rv sp rr w nw)) := by
  unfold fX12_goRow at e
  refine mm_T.seg (f' := (1, [some (.ref 62), some (.int x1), some (.int x2), none, none, none, none], [(.ref 62)])) (h' := (107, I, J, mm_rf rv sp rr w nw)) 1 rfl ?_
  obtain ⟨o644, eo644, e⟩ := mm_bind e
  refine mm_T.call (t := 256) (as := [(.ref 62)]) (f' := (4, [some (.ref 62), some (.int x1), some (.int x2), none, none, none, none], [])) rfl (tX12_fill (d + 3) n I J rv sp rr w nw o644 eo644) (fun v h hq => ?_)
  obtain ⟨rfl, rfl⟩ := hq
  refine mm_T.seg (f' := (6, [some (.ref 62), some (.int x1), some (.int x2), none, none, none, none], [(.int x1), (.ref 62)])) (h' := (107, o644, J, mm_rf rv sp rr w nw)) 2 rfl ?_
  obtain ⟨o645, eo645, e⟩ := mm_bind e
  refine mm_T.call (t := 278) (as := [(.ref 62), (.int x1)]) (f' := (9, [some (.ref 62), some (.int x1), some (.int x2), none, none, none, none], [])) rfl (tX12_leftOf (d + 3) x1 o644 J rv sp rr w nw o645 eo645) (fun v h hq => ?_)
  obtain ⟨rfl, rfl⟩ := hq
  refine mm_T.seg (f' := (18, [some (.ref 62), some (.int x1), some (.int x2), some (.int o645), some (.int x2), some (.int (o645 - 1)), none], [])) (h' := (107, o644, J, mm_rf rv sp rr w nw)) 7 rfl ?_
  refine mm_T.mask [true, true, false, true, true, true, false] ?_
  obtain ⟨o648, eo648, e⟩ := mm_bind e
  refine tlX12_goRow_L18 d _ n x1 o645 x2 (o645 - 1) o644 J rv sp rr w nw o648 eo648 ?_
  refine mm_T.seg (f' := (54, [some (.ref 62), some (.int x1), none, some (.int o645), none, some (.int 1), some (.int 0)], [])) (h' := (107, o648, J, mm_rf rv sp rr w nw)) 4 rfl ?_
  refine mm_T.mask [true, true, false, true, false, true, true] ?_
  obtain ⟨o654, eo654, e⟩ := mm_bind e
  refine tlX12_goRow_L54 d _ n x1 o645 1 0 o648 J rv sp rr w nw o654 eo654 ?_
  refine mm_T.seg (f' := (99, [none, none, none, none, none, some (.int o654.1), none], [(.int o654.1)])) (h' := (107, o654.2, J, mm_rf rv sp rr w nw)) 1 rfl ?_
  by_cases h655 : o654.1 = 0 ∨ o654.1 = 1
  case neg => rw [if_neg h655] at e; cases e
  rw [if_pos h655] at e
  cases e
  exact mm_T.retZ (v := some (.int o654.1)) rfl h655 ⟨rfl, rfl⟩
def fX12_putSteers_L11 (n : Nat) (y2 : Int32) (I : Nat → Nat → Int32) : Option ((Nat → Nat → Int32)) := match n with
  | 0 => none
  | n + 1 => (if y2 < (I 62 61) then (if y2 < 0 ∨ 6 ≤ y2.toNatClampNeg then none else (if y2 < 0 ∨ 7 ≤ y2.toNatClampNeg then none else fX12_putSteers_L11 n (y2 + 1) (mm_up I 88 y2.toNatClampNeg (I 87 y2.toNatClampNeg)))) else some I)
def fX12_putSteers (n : Nat) (x1 : Int32) (I : Nat → Nat → Int32) : Option ((Nat → Nat → Int32)) := (fX12_leftOf x1 I).bind fun o656 => (fX12_putSteers_L11 n 0 (mm_up I 62 61 o656)).bind fun o660 => some o660
set_option maxRecDepth 100000 in
set_option maxHeartbeats 4000000 in
theorem tlX12_putSteers_L11 (d : Nat) (Q : Option Value → mm_H → Prop) : ∀ (n : Nat) (y2 : Int32) (I : Nat → Nat → Int32) (J : Nat → Nat → Int64) (rv sp rr w nw : Nat), ∀ (out : (Nat → Nat → Int32)), fX12_putSteers_L11 n y2 I = some out → mm_T none (d + 1) 280 (37, [none, none, none], []) (107, out, J, mm_rf rv sp rr w nw) Q → mm_T none (d + 1) 280 (11, [some (.ref 62), none, some (.int y2)], []) (107, I, J, mm_rf rv sp rr w nw) Q := by
  intro n
  induction n with
  | zero =>
    intro y2 I J rv sp rr w nw out e k
    rw [fX12_putSteers_L11] at e; cases e
  | succ n ih =>
    intro y2 I J rv sp rr w nw out e k
    rw [fX12_putSteers_L11] at e
    refine mm_T.seg (f' := (16, [some (.ref 62), none, some (.int y2)], [(.int (I 62 61)), (.int y2)])) (h' := (107, I, J, mm_rf rv sp rr w nw)) 3 rfl ?_
    refine mm_T.br (c := y2 < (I 62 61)) (a := ((19, [some (.ref 62), none, some (.int y2)], []), (107, I, J, mm_rf rv sp rr w nw))) (b := ((37, [some (.ref 62), none, some (.int y2)], []), (107, I, J, mm_rf rv sp rr w nw))) rfl (fun h657 => ?_) (fun h657 => ?_)
    · rw [if_pos h657] at e
      refine mm_T.seg (f' := (29, [some (.ref 62), none, some (.int y2)], [(.int y2), (.ref 87), (.int y2), (.ref 88)])) (h' := (107, I, J, mm_rf rv sp rr w nw)) 6 rfl ?_
      by_cases h658 : y2 < 0 ∨ 6 ≤ y2.toNatClampNeg
      · rw [if_pos h658] at e; cases e
      rw [if_neg h658] at e
      refine mm_T.guard (y := ((30, [some (.ref 62), none, some (.int y2)], [(.int (I 87 y2.toNatClampNeg)), (.int y2), (.ref 88)]), (107, I, J, mm_rf rv sp rr w nw))) rfl h658 ?_
      by_cases h659 : y2 < 0 ∨ 7 ≤ y2.toNatClampNeg
      · rw [if_pos h659] at e; cases e
      rw [if_neg h659] at e
      refine mm_T.guard (y := ((31, [some (.ref 62), none, some (.int y2)], []), (107, (mm_up I 88 y2.toNatClampNeg (I 87 y2.toNatClampNeg)), J, mm_rf rv sp rr w nw))) rfl h659 ?_
      refine mm_T.seg (f' := (11, [some (.ref 62), none, some (.int (y2 + 1))], [])) (h' := (107, (mm_up I 88 y2.toNatClampNeg (I 87 y2.toNatClampNeg)), J, mm_rf rv sp rr w nw)) 2 rfl ?_
      refine mm_T.mask [true, false, true] ?_
      exact ih (y2 + 1) (mm_up I 88 y2.toNatClampNeg (I 87 y2.toNatClampNeg)) J rv sp rr w nw out e k
    · rw [if_neg h657] at e
      cases e
      refine mm_T.mask [false, false, false] ?_
      exact k
set_option maxRecDepth 100000 in
set_option maxHeartbeats 4000000 in
theorem tX12_putSteers (d n : Nat) (x1 : Int32) (I : Nat → Nat → Int32) (J : Nat → Nat → Int64) (rv sp rr w nw : Nat) (out : (Nat → Nat → Int32)) (e : fX12_putSteers n x1 I = some out) : mm_T none (d + 1) 280 (mm_ent 280 [(.ref 62), (.int x1)]) (107, I, J, mm_rf rv sp rr w nw) (fun v h => v = none ∧ h = (107, out, J, mm_rf rv sp rr w nw)) := by
  unfold fX12_putSteers at e
  refine mm_T.seg (f' := (3, [some (.ref 62), some (.int x1), none], [(.int x1), (.ref 62), (.ref 62)])) (h' := (107, I, J, mm_rf rv sp rr w nw)) 3 rfl ?_
  obtain ⟨o656, eo656, e⟩ := mm_bind e
  refine mm_T.call (t := 278) (as := [(.ref 62), (.int x1)]) (f' := (6, [some (.ref 62), some (.int x1), none], [(.ref 62)])) rfl (tX12_leftOf (d + 0) x1 I J rv sp rr w nw o656 eo656) (fun v h hq => ?_)
  obtain ⟨rfl, rfl⟩ := hq
  refine mm_T.seg (f' := (11, [some (.ref 62), some (.int x1), some (.int 0)], [])) (h' := (107, (mm_up I 62 61 o656), J, mm_rf rv sp rr w nw)) 3 rfl ?_
  refine mm_T.mask [true, false, true] ?_
  obtain ⟨o660, eo660, e⟩ := mm_bind e
  refine tlX12_putSteers_L11 d _ n 0 (mm_up I 62 61 o656) J rv sp rr w nw o660 eo660 ?_
  cases e
  exact mm_T.ret rfl ⟨rfl, rfl⟩
def fX12_landingsOf_L4 (n : Nat) (y1 : Int32) (y2 : Int32) (y3 : Int32) (I : Nat → Nat → Int32) : Option (Int32 × (Nat → Nat → Int32)) := match n with
  | 0 => none
  | n + 1 => (fX12_leftOf y1 I).bind fun o661 => (fX12_power n 3 o661).bind fun o662 => (if y3 < o662 then (fX12_goRow n y1 y3 I).bind fun o664 => (if o664.1 = 0 then fX12_landingsOf_L4 n y1 y2 (y3 + 1) o664.2 else (if y1 < 0 ∨ 28 ≤ y1.toNatClampNeg then none else fX12_landingsOf_L4 n y1 (y2 ||| (1 <<< ((o664.2 85 y1.toNatClampNeg) &&& 31))) (y3 + 1) o664.2)) else some (y2, I))
def fX12_landingsOf (n : Nat) (x1 : Int32) (I : Nat → Nat → Int32) : Option (Int32 × (Nat → Nat → Int32)) := (fX12_landingsOf_L4 n x1 0 0 I).bind fun o667 => some (o667.1, o667.2)
set_option maxRecDepth 100000 in
set_option maxHeartbeats 4000000 in
theorem tlX12_landingsOf_L4 (d : Nat) (Q : Option Value → mm_H → Prop) : ∀ (n : Nat) (y1 : Int32) (y2 : Int32) (y3 : Int32) (I : Nat → Nat → Int32) (J : Nat → Nat → Int64) (rv sp rr w nw : Nat), ∀ (out : Int32 × (Nat → Nat → Int32)), fX12_landingsOf_L4 n y1 y2 y3 I = some out → mm_T none (d + 5) 281 (43, [none, none, some (.int out.1), none], []) (107, out.2, J, mm_rf rv sp rr w nw) Q → mm_T none (d + 5) 281 (4, [some (.ref 62), some (.int y1), some (.int y2), some (.int y3)], []) (107, I, J, mm_rf rv sp rr w nw) Q := by
  intro n
  induction n with
  | zero =>
    intro y1 y2 y3 I J rv sp rr w nw out e k
    rw [fX12_landingsOf_L4] at e; cases e
  | succ n ih =>
    intro y1 y2 y3 I J rv sp rr w nw out e k
    rw [fX12_landingsOf_L4] at e
    refine mm_T.seg (f' := (8, [some (.ref 62), some (.int y1), some (.int y2), some (.int y3)], [(.int y1), (.ref 62), (.int 3), (.int y3)])) (h' := (107, I, J, mm_rf rv sp rr w nw)) 4 rfl ?_
    obtain ⟨o661, eo661, e⟩ := mm_bind e
    refine mm_T.call (t := 278) (as := [(.ref 62), (.int y1)]) (f' := (11, [some (.ref 62), some (.int y1), some (.int y2), some (.int y3)], [(.int 3), (.int y3)])) rfl (tX12_leftOf (d + 4) y1 I J rv sp rr w nw o661 eo661) (fun v h hq => ?_)
    obtain ⟨rfl, rfl⟩ := hq
    obtain ⟨o662, eo662, e⟩ := mm_bind e
    refine mm_T.call (t := 277) (as := [(.int 3), (.int o661)]) (f' := (14, [some (.ref 62), some (.int y1), some (.int y2), some (.int y3)], [(.int y3)])) rfl (tX12_power (d + 4) n 3 o661 I J rv sp rr w nw o662 eo662) (fun v h hq => ?_)
    obtain ⟨rfl, rfl⟩ := hq
    refine mm_T.br (c := y3 < o662) (a := ((17, [some (.ref 62), some (.int y1), some (.int y2), some (.int y3)], []), (107, I, J, mm_rf rv sp rr w nw))) (b := ((43, [some (.ref 62), some (.int y1), some (.int y2), some (.int y3)], []), (107, I, J, mm_rf rv sp rr w nw))) rfl (fun h663 => ?_) (fun h663 => ?_)
    · rw [if_pos h663] at e
      refine mm_T.seg (f' := (20, [some (.ref 62), some (.int y1), some (.int y2), some (.int y3)], [(.int y3), (.int y1), (.ref 62)])) (h' := (107, I, J, mm_rf rv sp rr w nw)) 3 rfl ?_
      obtain ⟨o664, eo664, e⟩ := mm_bind e
      refine mm_T.call (t := 279) (as := [(.ref 62), (.int y1), (.int y3)]) (f' := (23, [some (.ref 62), some (.int y1), some (.int y2), some (.int y3)], [])) rfl (tX12_goRow (d + 0) n y1 y3 I J rv sp rr w nw o664 eo664) (fun v h hq => ?_)
      obtain ⟨rfl, rfl⟩ := hq
      refine mm_T.br (c := o664.1 = 0) (a := ((37, [some (.ref 62), some (.int y1), some (.int y2), some (.int y3)], []), (107, o664.2, J, mm_rf rv sp rr w nw))) (b := ((26, [some (.ref 62), some (.int y1), some (.int y2), some (.int y3)], []), (107, o664.2, J, mm_rf rv sp rr w nw))) rfl (fun h665 => ?_) (fun h665 => ?_)
      · rw [if_pos h665] at e
        refine mm_T.seg (f' := (4, [some (.ref 62), some (.int y1), some (.int y2), some (.int (y3 + 1))], [])) (h' := (107, o664.2, J, mm_rf rv sp rr w nw)) 2 rfl ?_
        refine mm_T.mask [true, true, true, true] ?_
        exact ih y1 y2 (y3 + 1) o664.2 J rv sp rr w nw out e k
      · rw [if_neg h665] at e
        refine mm_T.seg (f' := (33, [some (.ref 62), some (.int y1), some (.int y2), some (.int y3)], [(.int y1), (.ref 85), (.int 1), (.int y2)])) (h' := (107, o664.2, J, mm_rf rv sp rr w nw)) 5 rfl ?_
        by_cases h666 : y1 < 0 ∨ 28 ≤ y1.toNatClampNeg
        · rw [if_pos h666] at e; cases e
        rw [if_neg h666] at e
        refine mm_T.guard (y := ((34, [some (.ref 62), some (.int y1), some (.int y2), some (.int y3)], [(.int (o664.2 85 y1.toNatClampNeg)), (.int 1), (.int y2)]), (107, o664.2, J, mm_rf rv sp rr w nw))) rfl h666 ?_
        refine mm_T.seg (f' := (4, [some (.ref 62), some (.int y1), some (.int (y2 ||| (1 <<< ((o664.2 85 y1.toNatClampNeg) &&& 31)))), some (.int (y3 + 1))], [])) (h' := (107, o664.2, J, mm_rf rv sp rr w nw)) 5 rfl ?_
        refine mm_T.mask [true, true, true, true] ?_
        exact ih y1 (y2 ||| (1 <<< ((o664.2 85 y1.toNatClampNeg) &&& 31))) (y3 + 1) o664.2 J rv sp rr w nw out e k
    · rw [if_neg h663] at e
      cases e
      refine mm_T.mask [false, false, true, false] ?_
      exact k
set_option maxRecDepth 100000 in
set_option maxHeartbeats 4000000 in
theorem tX12_landingsOf (d n : Nat) (x1 : Int32) (I : Nat → Nat → Int32) (J : Nat → Nat → Int64) (rv sp rr w nw : Nat) (out : Int32 × (Nat → Nat → Int32)) (e : fX12_landingsOf n x1 I = some out) : mm_T none (d + 5) 281 (mm_ent 281 [(.ref 62), (.int x1)]) (107, I, J, mm_rf rv sp rr w nw) (fun v h => v = some (.int out.1) ∧ h = (107, out.2, J, mm_rf rv sp rr w nw)) := by
  unfold fX12_landingsOf at e
  refine mm_T.seg (f' := (4, [some (.ref 62), some (.int x1), some (.int 0), some (.int 0)], [])) (h' := (107, I, J, mm_rf rv sp rr w nw)) 4 rfl ?_
  refine mm_T.mask [true, true, true, true] ?_
  obtain ⟨o667, eo667, e⟩ := mm_bind e
  refine tlX12_landingsOf_L4 d _ n x1 0 0 I J rv sp rr w nw o667 eo667 ?_
  refine mm_T.seg (f' := (44, [none, none, some (.int o667.1), none], [(.int o667.1)])) (h' := (107, o667.2, J, mm_rf rv sp rr w nw)) 1 rfl ?_
  cases e
  exact mm_T.ret rfl ⟨rfl, rfl⟩
def fX12_landings (n : Nat) (x1 : Int32) (I : Nat → Nat → Int32) : Option (Int32 × (Nat → Nat → Int32)) := (fX12_isBoard x1 I).bind fun o668 => (if o668 = 0 then some ((-1), I) else (fX12_landingsOf n x1 I).bind fun o670 => some (o670.1, o670.2))
set_option maxRecDepth 100000 in
set_option maxHeartbeats 4000000 in
theorem tX12_landings (d n : Nat) (x1 : Int32) (I : Nat → Nat → Int32) (J : Nat → Nat → Int64) (rv sp rr w nw : Nat) (out : Int32 × (Nat → Nat → Int32)) (e : fX12_landings n x1 I = some out) : mm_T none (d + 6) 282 (mm_ent 282 [(.ref 62), (.int x1)]) (107, I, J, mm_rf rv sp rr w nw) (fun v h => v = some (.int out.1) ∧ h = (107, out.2, J, mm_rf rv sp rr w nw)) := by
  unfold fX12_landings at e
  refine mm_T.seg (f' := (2, [some (.ref 62), some (.int x1)], [(.int x1), (.ref 62)])) (h' := (107, I, J, mm_rf rv sp rr w nw)) 2 rfl ?_
  obtain ⟨o668, eo668, e⟩ := mm_bind e
  refine mm_T.call (t := 253) (as := [(.ref 62), (.int x1)]) (f' := (5, [some (.ref 62), some (.int x1)], [])) rfl (tX12_isBoard (d + 4) x1 I J rv sp rr w nw o668 eo668) (fun v h hq => ?_)
  obtain ⟨rfl, rfl⟩ := hq
  refine mm_T.br (c := o668 = 0) (a := ((16, [some (.ref 62), some (.int x1)], []), (107, I, J, mm_rf rv sp rr w nw))) (b := ((8, [some (.ref 62), some (.int x1)], []), (107, I, J, mm_rf rv sp rr w nw))) rfl (fun h669 => ?_) (fun h669 => ?_)
  · rw [if_pos h669] at e
    refine mm_T.seg (f' := (17, [some (.ref 62), some (.int x1)], [(.int (-1))])) (h' := (107, I, J, mm_rf rv sp rr w nw)) 1 rfl ?_
    cases e
    exact mm_T.ret rfl ⟨rfl, rfl⟩
  · rw [if_neg h669] at e
    refine mm_T.seg (f' := (10, [some (.ref 62), some (.int x1)], [(.int x1), (.ref 62)])) (h' := (107, I, J, mm_rf rv sp rr w nw)) 2 rfl ?_
    obtain ⟨o670, eo670, e⟩ := mm_bind e
    refine mm_T.call (t := 281) (as := [(.ref 62), (.int x1)]) (f' := (13, [some (.ref 62), some (.int x1)], [])) rfl (tX12_landingsOf (d + 0) n x1 I J rv sp rr w nw o670 eo670) (fun v h hq => ?_)
    obtain ⟨rfl, rfl⟩ := hq
    refine mm_T.seg (f' := (17, [some (.ref 62), some (.int x1)], [(.int o670.1)])) (h' := (107, o670.2, J, mm_rf rv sp rr w nw)) 1 rfl ?_
    cases e
    exact mm_T.ret rfl ⟨rfl, rfl⟩
def fX12_rows_L14 (n : Nat) (y1 : Int32) (y2 : Int32) (y3 : Int32) (I : Nat → Nat → Int32) : Option (Int32 × (Nat → Nat → Int32)) := match n with
  | 0 => none
  | n + 1 => (fX12_leftOf y1 I).bind fun o673 => (fX12_power n 3 o673).bind fun o674 => (if y3 < o674 then (fX12_goRow n y1 y3 I).bind fun o676 => fX12_rows_L14 n y1 (y2 + (fX12_truth o676.1)) (y3 + 1) o676.2 else some (y2, I))
def fX12_rows (n : Nat) (x1 : Int32) (I : Nat → Nat → Int32) : Option (Int32 × (Nat → Nat → Int32)) := (fX12_isBoard x1 I).bind fun o671 => (if o671 = 0 then some ((-1), I) else (fX12_rows_L14 n x1 0 0 I).bind fun o677 => some (o677.1, o677.2))
set_option maxRecDepth 100000 in
set_option maxHeartbeats 4000000 in
theorem tlX12_rows_L14 (d : Nat) (Q : Option Value → mm_H → Prop) : ∀ (n : Nat) (y1 : Int32) (y2 : Int32) (y3 : Int32) (I : Nat → Nat → Int32) (J : Nat → Nat → Int64) (rv sp rr w nw : Nat), ∀ (out : Int32 × (Nat → Nat → Int32)), fX12_rows_L14 n y1 y2 y3 I = some out → mm_T none (d + 5) 283 (45, [none, none, some (.int out.1), none], []) (107, out.2, J, mm_rf rv sp rr w nw) Q → mm_T none (d + 5) 283 (14, [some (.ref 62), some (.int y1), some (.int y2), some (.int y3)], []) (107, I, J, mm_rf rv sp rr w nw) Q := by
  intro n
  induction n with
  | zero =>
    intro y1 y2 y3 I J rv sp rr w nw out e k
    rw [fX12_rows_L14] at e; cases e
  | succ n ih =>
    intro y1 y2 y3 I J rv sp rr w nw out e k
    rw [fX12_rows_L14] at e
    refine mm_T.seg (f' := (18, [some (.ref 62), some (.int y1), some (.int y2), some (.int y3)], [(.int y1), (.ref 62), (.int 3), (.int y3)])) (h' := (107, I, J, mm_rf rv sp rr w nw)) 4 rfl ?_
    obtain ⟨o673, eo673, e⟩ := mm_bind e
    refine mm_T.call (t := 278) (as := [(.ref 62), (.int y1)]) (f' := (21, [some (.ref 62), some (.int y1), some (.int y2), some (.int y3)], [(.int 3), (.int y3)])) rfl (tX12_leftOf (d + 4) y1 I J rv sp rr w nw o673 eo673) (fun v h hq => ?_)
    obtain ⟨rfl, rfl⟩ := hq
    obtain ⟨o674, eo674, e⟩ := mm_bind e
    refine mm_T.call (t := 277) (as := [(.int 3), (.int o673)]) (f' := (24, [some (.ref 62), some (.int y1), some (.int y2), some (.int y3)], [(.int y3)])) rfl (tX12_power (d + 4) n 3 o673 I J rv sp rr w nw o674 eo674) (fun v h hq => ?_)
    obtain ⟨rfl, rfl⟩ := hq
    refine mm_T.br (c := y3 < o674) (a := ((27, [some (.ref 62), some (.int y1), some (.int y2), some (.int y3)], []), (107, I, J, mm_rf rv sp rr w nw))) (b := ((45, [some (.ref 62), some (.int y1), some (.int y2), some (.int y3)], []), (107, I, J, mm_rf rv sp rr w nw))) rfl (fun h675 => ?_) (fun h675 => ?_)
    · rw [if_pos h675] at e
      refine mm_T.seg (f' := (31, [some (.ref 62), some (.int y1), some (.int y2), some (.int y3)], [(.int y3), (.int y1), (.ref 62), (.int y2)])) (h' := (107, I, J, mm_rf rv sp rr w nw)) 4 rfl ?_
      obtain ⟨o676, eo676, e⟩ := mm_bind e
      refine mm_T.call (t := 279) (as := [(.ref 62), (.int y1), (.int y3)]) (f' := (34, [some (.ref 62), some (.int y1), some (.int y2), some (.int y3)], [(.int y2)])) rfl (tX12_goRow (d + 0) n y1 y3 I J rv sp rr w nw o676 eo676) (fun v h hq => ?_)
      obtain ⟨rfl, rfl⟩ := hq
      refine mm_T.call (t := 236) (as := [(.int o676.1)]) (f' := (37, [some (.ref 62), some (.int y1), some (.int y2), some (.int y3)], [(.int y2)])) rfl (tX12_truth (d + 4) o676.1 o676.2 J rv sp rr w nw _ rfl) (fun v h hq => ?_)
      obtain ⟨rfl, rfl⟩ := hq
      refine mm_T.seg (f' := (14, [some (.ref 62), some (.int y1), some (.int (y2 + (fX12_truth o676.1))), some (.int (y3 + 1))], [])) (h' := (107, o676.2, J, mm_rf rv sp rr w nw)) 4 rfl ?_
      refine mm_T.mask [true, true, true, true] ?_
      exact ih y1 (y2 + (fX12_truth o676.1)) (y3 + 1) o676.2 J rv sp rr w nw out e k
    · rw [if_neg h675] at e
      cases e
      refine mm_T.mask [false, false, true, false] ?_
      exact k
set_option maxRecDepth 100000 in
set_option maxHeartbeats 4000000 in
theorem tX12_rows (d n : Nat) (x1 : Int32) (I : Nat → Nat → Int32) (J : Nat → Nat → Int64) (rv sp rr w nw : Nat) (out : Int32 × (Nat → Nat → Int32)) (e : fX12_rows n x1 I = some out) : mm_T none (d + 5) 283 (mm_ent 283 [(.ref 62), (.int x1)]) (107, I, J, mm_rf rv sp rr w nw) (fun v h => v = some (.int out.1) ∧ h = (107, out.2, J, mm_rf rv sp rr w nw)) := by
  unfold fX12_rows at e
  refine mm_T.seg (f' := (2, [some (.ref 62), some (.int x1), none, none], [(.int x1), (.ref 62)])) (h' := (107, I, J, mm_rf rv sp rr w nw)) 2 rfl ?_
  obtain ⟨o671, eo671, e⟩ := mm_bind e
  refine mm_T.call (t := 253) (as := [(.ref 62), (.int x1)]) (f' := (5, [some (.ref 62), some (.int x1), none, none], [])) rfl (tX12_isBoard (d + 3) x1 I J rv sp rr w nw o671 eo671) (fun v h hq => ?_)
  obtain ⟨rfl, rfl⟩ := hq
  refine mm_T.br (c := o671 = 0) (a := ((8, [some (.ref 62), some (.int x1), none, none], []), (107, I, J, mm_rf rv sp rr w nw))) (b := ((10, [some (.ref 62), some (.int x1), none, none], []), (107, I, J, mm_rf rv sp rr w nw))) rfl (fun h672 => ?_) (fun h672 => ?_)
  · rw [if_pos h672] at e
    refine mm_T.seg (f' := (9, [some (.ref 62), some (.int x1), none, none], [(.int (-1))])) (h' := (107, I, J, mm_rf rv sp rr w nw)) 1 rfl ?_
    cases e
    exact mm_T.ret rfl ⟨rfl, rfl⟩
  · rw [if_neg h672] at e
    refine mm_T.seg (f' := (14, [some (.ref 62), some (.int x1), some (.int 0), some (.int 0)], [])) (h' := (107, I, J, mm_rf rv sp rr w nw)) 4 rfl ?_
    refine mm_T.mask [true, true, true, true] ?_
    obtain ⟨o677, eo677, e⟩ := mm_bind e
    refine tlX12_rows_L14 d _ n x1 0 0 I J rv sp rr w nw o677 eo677 ?_
    refine mm_T.seg (f' := (46, [none, none, some (.int o677.1), none], [(.int o677.1)])) (h' := (107, o677.2, J, mm_rf rv sp rr w nw)) 1 rfl ?_
    cases e
    exact mm_T.ret rfl ⟨rfl, rfl⟩
def fX12_unsteered (n : Nat) (x1 : Int32) (I : Nat → Nat → Int32) : Option (Int32) := (fX12_leftOf x1 I).bind fun o678 => (fX12_power n 3 o678).bind fun o679 => some ((o679 - 1) / 2)
set_option maxRecDepth 100000 in
set_option maxHeartbeats 4000000 in
theorem tX12_unsteered (d n : Nat) (x1 : Int32) (I : Nat → Nat → Int32) (J : Nat → Nat → Int64) (rv sp rr w nw : Nat) (out : Int32) (e : fX12_unsteered n x1 I = some out) : mm_T none (d + 1) 284 (mm_ent 284 [(.ref 62), (.int x1)]) (107, I, J, mm_rf rv sp rr w nw) (fun v h => v = some (.int out) ∧ h = (107, I, J, mm_rf rv sp rr w nw)) := by
  unfold fX12_unsteered at e
  refine mm_T.seg (f' := (3, [some (.ref 62), some (.int x1)], [(.int x1), (.ref 62), (.int 3)])) (h' := (107, I, J, mm_rf rv sp rr w nw)) 3 rfl ?_
  obtain ⟨o678, eo678, e⟩ := mm_bind e
  refine mm_T.call (t := 278) (as := [(.ref 62), (.int x1)]) (f' := (6, [some (.ref 62), some (.int x1)], [(.int 3)])) rfl (tX12_leftOf (d + 0) x1 I J rv sp rr w nw o678 eo678) (fun v h hq => ?_)
  obtain ⟨rfl, rfl⟩ := hq
  obtain ⟨o679, eo679, e⟩ := mm_bind e
  refine mm_T.call (t := 277) (as := [(.int 3), (.int o678)]) (f' := (9, [some (.ref 62), some (.int x1)], [])) rfl (tX12_power (d + 0) n 3 o678 I J rv sp rr w nw o679 eo679) (fun v h hq => ?_)
  obtain ⟨rfl, rfl⟩ := hq
  refine mm_T.seg (f' := (13, [some (.ref 62), some (.int x1)], [(.int ((o679 - 1) / 2))])) (h' := (107, I, J, mm_rf rv sp rr w nw)) 4 rfl ?_
  cases e
  exact mm_T.ret rfl ⟨rfl, rfl⟩
def fX12_drift (n : Nat) (x1 : Int32) (I : Nat → Nat → Int32) : Option (Int32 × (Nat → Nat → Int32)) := (fX12_isBoard x1 I).bind fun o680 => (if o680 = 0 then some ((-1), I) else (fX12_unsteered n x1 I).bind fun o682 => (fX12_goRow n x1 o682 I).bind fun o683 => (if o683.1 = 0 then some ((-1), o683.2) else (if x1 < 0 ∨ 28 ≤ x1.toNatClampNeg then none else some ((o683.2 85 x1.toNatClampNeg), o683.2))))
set_option maxRecDepth 100000 in
set_option maxHeartbeats 4000000 in
theorem tX12_drift (d n : Nat) (x1 : Int32) (I : Nat → Nat → Int32) (J : Nat → Nat → Int64) (rv sp rr w nw : Nat) (out : Int32 × (Nat → Nat → Int32)) (e : fX12_drift n x1 I = some out) : mm_T none (d + 5) 285 (mm_ent 285 [(.ref 62), (.int x1)]) (107, I, J, mm_rf rv sp rr w nw) (fun v h => v = some (.int out.1) ∧ h = (107, out.2, J, mm_rf rv sp rr w nw)) := by
  unfold fX12_drift at e
  refine mm_T.seg (f' := (2, [some (.ref 62), some (.int x1)], [(.int x1), (.ref 62)])) (h' := (107, I, J, mm_rf rv sp rr w nw)) 2 rfl ?_
  obtain ⟨o680, eo680, e⟩ := mm_bind e
  refine mm_T.call (t := 253) (as := [(.ref 62), (.int x1)]) (f' := (5, [some (.ref 62), some (.int x1)], [])) rfl (tX12_isBoard (d + 3) x1 I J rv sp rr w nw o680 eo680) (fun v h hq => ?_)
  obtain ⟨rfl, rfl⟩ := hq
  refine mm_T.br (c := o680 = 0) (a := ((30, [some (.ref 62), some (.int x1)], []), (107, I, J, mm_rf rv sp rr w nw))) (b := ((8, [some (.ref 62), some (.int x1)], []), (107, I, J, mm_rf rv sp rr w nw))) rfl (fun h681 => ?_) (fun h681 => ?_)
  · rw [if_pos h681] at e
    refine mm_T.seg (f' := (31, [some (.ref 62), some (.int x1)], [(.int (-1))])) (h' := (107, I, J, mm_rf rv sp rr w nw)) 1 rfl ?_
    cases e
    exact mm_T.ret rfl ⟨rfl, rfl⟩
  · rw [if_neg h681] at e
    refine mm_T.seg (f' := (12, [some (.ref 62), some (.int x1)], [(.int x1), (.ref 62), (.int x1), (.ref 62)])) (h' := (107, I, J, mm_rf rv sp rr w nw)) 4 rfl ?_
    obtain ⟨o682, eo682, e⟩ := mm_bind e
    refine mm_T.call (t := 284) (as := [(.ref 62), (.int x1)]) (f' := (15, [some (.ref 62), some (.int x1)], [(.int x1), (.ref 62)])) rfl (tX12_unsteered (d + 3) n x1 I J rv sp rr w nw o682 eo682) (fun v h hq => ?_)
    obtain ⟨rfl, rfl⟩ := hq
    obtain ⟨o683, eo683, e⟩ := mm_bind e
    refine mm_T.call (t := 279) (as := [(.ref 62), (.int x1), (.int o682)]) (f' := (18, [some (.ref 62), some (.int x1)], [])) rfl (tX12_goRow (d + 0) n x1 o682 I J rv sp rr w nw o683 eo683) (fun v h hq => ?_)
    obtain ⟨rfl, rfl⟩ := hq
    refine mm_T.br (c := o683.1 = 0) (a := ((30, [some (.ref 62), some (.int x1)], []), (107, o683.2, J, mm_rf rv sp rr w nw))) (b := ((21, [some (.ref 62), some (.int x1)], []), (107, o683.2, J, mm_rf rv sp rr w nw))) rfl (fun h684 => ?_) (fun h684 => ?_)
    · rw [if_pos h684] at e
      refine mm_T.seg (f' := (31, [some (.ref 62), some (.int x1)], [(.int (-1))])) (h' := (107, o683.2, J, mm_rf rv sp rr w nw)) 1 rfl ?_
      cases e
      exact mm_T.ret rfl ⟨rfl, rfl⟩
    · rw [if_neg h684] at e
      refine mm_T.seg (f' := (26, [some (.ref 62), some (.int x1)], [(.int x1), (.ref 85)])) (h' := (107, o683.2, J, mm_rf rv sp rr w nw)) 3 rfl ?_
      by_cases h685 : x1 < 0 ∨ 28 ≤ x1.toNatClampNeg
      · rw [if_pos h685] at e; cases e
      rw [if_neg h685] at e
      refine mm_T.guard (y := ((27, [some (.ref 62), some (.int x1)], [(.int (o683.2 85 x1.toNatClampNeg))]), (107, o683.2, J, mm_rf rv sp rr w nw))) rfl h685 ?_
      refine mm_T.seg (f' := (31, [some (.ref 62), some (.int x1)], [(.int (o683.2 85 x1.toNatClampNeg))])) (h' := (107, o683.2, J, mm_rf rv sp rr w nw)) 1 rfl ?_
      cases e
      exact mm_T.ret rfl ⟨rfl, rfl⟩
def fX12_coolest_L34 (n : Nat) (y1 : Int32) (y2 : Int32) (y3 : Int32) (y4 : Int32) (y5 : Int32) (I : Nat → Nat → Int32) : Option (Int32 × Int32 × (Nat → Nat → Int32)) := match n with
  | 0 => none
  | n + 1 => (fX12_leftOf y1 I).bind fun o689 => (fX12_power n 3 o689).bind fun o690 => (if y5 < o690 then (fX12_goRow n y1 y5 I).bind fun o692 => (if o692.1 = 0 then fX12_coolest_L34 n y1 y2 y3 y4 (y5 + 1) o692.2 else (if (12 + y1) < 0 ∨ 28 ≤ (12 + y1).toNatClampNeg then none else (if (12 + y1) < 0 ∨ 28 ≤ (12 + y1).toNatClampNeg then none else (if (8 + y1) < 0 ∨ 28 ≤ (8 + y1).toNatClampNeg then none else (if ((100 * ((o692.2 85 (12 + y1).toNatClampNeg) - (o692.2 84 (12 + y1).toNatClampNeg))) + (o692.2 85 (8 + y1).toNatClampNeg)) < y3 then (if y1 < 0 ∨ 28 ≤ y1.toNatClampNeg then none else (fX12_putSteers n y1 o692.2).bind fun o699 => fX12_coolest_L34 n y1 y2 ((100 * ((o692.2 85 (12 + y1).toNatClampNeg) - (o692.2 84 (12 + y1).toNatClampNeg))) + (o692.2 85 (8 + y1).toNatClampNeg)) (o692.2 85 y1.toNatClampNeg) (y5 + 1) o699) else fX12_coolest_L34 n y1 y2 y3 y4 (y5 + 1) o692.2))))) else some (y3, y4, I))
def fX12_coolest (n : Nat) (x1 : Int32) (x2 : Int32) (I : Nat → Nat → Int32) : Option (Int32 × (Nat → Nat → Int32)) := (fX12_isBoard x1 (mm_up I 62 61 0)).bind fun o686 => (if o686 = 0 then some ((-1), (mm_up I 62 61 0)) else (if (fX12_isIn x2 0 2) = 0 then some ((-1), (mm_up I 62 61 0)) else (fX12_coolest_L34 n x1 x2 1000000 (-1) 0 (mm_up I 62 61 0)).bind fun o700 => (if o700.2.1 < 0 then some ((-1), o700.2.2) else (if x2 = 0 then some ((o700.1 / 100), o700.2.2) else (if x2 = 1 then some ((o700.1 - o700.1 / 100 * 100), o700.2.2) else some (o700.2.1, o700.2.2))))))
set_option maxRecDepth 100000 in
set_option maxHeartbeats 4000000 in
theorem tlX12_coolest_L34 (d : Nat) (Q : Option Value → mm_H → Prop) : ∀ (n : Nat) (y1 : Int32) (y2 : Int32) (y3 : Int32) (y4 : Int32) (y5 : Int32) (I : Nat → Nat → Int32) (J : Nat → Nat → Int64) (rv sp rr w nw : Nat), ∀ (out : Int32 × Int32 × (Nat → Nat → Int32)), fX12_coolest_L34 n y1 y2 y3 y4 y5 I = some out → mm_T none (d + 5) 286 (126, [none, none, some (.int y2), some (.int out.1), some (.int out.2.1), none, none], []) (107, out.2.2, J, mm_rf rv sp rr w nw) Q → mm_T none (d + 5) 286 (34, [some (.ref 62), some (.int y1), some (.int y2), some (.int y3), some (.int y4), some (.int y5), none], []) (107, I, J, mm_rf rv sp rr w nw) Q := by
  intro n
  induction n with
  | zero =>
    intro y1 y2 y3 y4 y5 I J rv sp rr w nw out e k
    rw [fX12_coolest_L34] at e; cases e
  | succ n ih =>
    intro y1 y2 y3 y4 y5 I J rv sp rr w nw out e k
    rw [fX12_coolest_L34] at e
    refine mm_T.seg (f' := (39, [some (.ref 62), some (.int y1), some (.int y2), some (.int y3), some (.int y4), some (.int y5), none], [(.int y1), (.ref 62), (.int 3), (.int y5)])) (h' := (107, I, J, mm_rf rv sp rr w nw)) 4 rfl ?_
    obtain ⟨o689, eo689, e⟩ := mm_bind e
    refine mm_T.call (t := 278) (as := [(.ref 62), (.int y1)]) (f' := (42, [some (.ref 62), some (.int y1), some (.int y2), some (.int y3), some (.int y4), some (.int y5), none], [(.int 3), (.int y5)])) rfl (tX12_leftOf (d + 4) y1 I J rv sp rr w nw o689 eo689) (fun v h hq => ?_)
    obtain ⟨rfl, rfl⟩ := hq
    obtain ⟨o690, eo690, e⟩ := mm_bind e
    refine mm_T.call (t := 277) (as := [(.int 3), (.int o689)]) (f' := (45, [some (.ref 62), some (.int y1), some (.int y2), some (.int y3), some (.int y4), some (.int y5), none], [(.int y5)])) rfl (tX12_power (d + 4) n 3 o689 I J rv sp rr w nw o690 eo690) (fun v h hq => ?_)
    obtain ⟨rfl, rfl⟩ := hq
    refine mm_T.br (c := y5 < o690) (a := ((48, [some (.ref 62), some (.int y1), some (.int y2), some (.int y3), some (.int y4), some (.int y5), none], []), (107, I, J, mm_rf rv sp rr w nw))) (b := ((126, [some (.ref 62), some (.int y1), some (.int y2), some (.int y3), some (.int y4), some (.int y5), none], []), (107, I, J, mm_rf rv sp rr w nw))) rfl (fun h691 => ?_) (fun h691 => ?_)
    · rw [if_pos h691] at e
      refine mm_T.seg (f' := (52, [some (.ref 62), some (.int y1), some (.int y2), some (.int y3), some (.int y4), some (.int y5), none], [(.int y5), (.int y1), (.ref 62)])) (h' := (107, I, J, mm_rf rv sp rr w nw)) 3 rfl ?_
      obtain ⟨o692, eo692, e⟩ := mm_bind e
      refine mm_T.call (t := 279) (as := [(.ref 62), (.int y1), (.int y5)]) (f' := (55, [some (.ref 62), some (.int y1), some (.int y2), some (.int y3), some (.int y4), some (.int y5), none], [])) rfl (tX12_goRow (d + 0) n y1 y5 I J rv sp rr w nw o692 eo692) (fun v h hq => ?_)
      obtain ⟨rfl, rfl⟩ := hq
      refine mm_T.br (c := o692.1 = 0) (a := ((58, [some (.ref 62), some (.int y1), some (.int y2), some (.int y3), some (.int y4), some (.int y5), none], []), (107, o692.2, J, mm_rf rv sp rr w nw))) (b := ((61, [some (.ref 62), some (.int y1), some (.int y2), some (.int y3), some (.int y4), some (.int y5), none], []), (107, o692.2, J, mm_rf rv sp rr w nw))) rfl (fun h693 => ?_) (fun h693 => ?_)
      · rw [if_pos h693] at e
        refine mm_T.seg (f' := (34, [some (.ref 62), some (.int y1), some (.int y2), some (.int y3), some (.int y4), some (.int (y5 + 1)), none], [])) (h' := (107, o692.2, J, mm_rf rv sp rr w nw)) 3 rfl ?_
        refine mm_T.mask [true, true, true, true, true, true, false] ?_
        exact ih y1 y2 y3 y4 (y5 + 1) o692.2 J rv sp rr w nw out e k
      · rw [if_neg h693] at e
        refine mm_T.seg (f' := (71, [some (.ref 62), some (.int y1), some (.int y2), some (.int y3), some (.int y4), some (.int y5), none], [(.int (12 + y1)), (.ref 85), (.int 100)])) (h' := (107, o692.2, J, mm_rf rv sp rr w nw)) 6 rfl ?_
        by_cases h694 : (12 + y1) < 0 ∨ 28 ≤ (12 + y1).toNatClampNeg
        · rw [if_pos h694] at e; cases e
        rw [if_neg h694] at e
        refine mm_T.guard (y := ((72, [some (.ref 62), some (.int y1), some (.int y2), some (.int y3), some (.int y4), some (.int y5), none], [(.int (o692.2 85 (12 + y1).toNatClampNeg)), (.int 100)]), (107, o692.2, J, mm_rf rv sp rr w nw))) rfl h694 ?_
        refine mm_T.seg (f' := (80, [some (.ref 62), some (.int y1), some (.int y2), some (.int y3), some (.int y4), some (.int y5), none], [(.int (12 + y1)), (.ref 84), (.int (o692.2 85 (12 + y1).toNatClampNeg)), (.int 100)])) (h' := (107, o692.2, J, mm_rf rv sp rr w nw)) 5 rfl ?_
        by_cases h695 : (12 + y1) < 0 ∨ 28 ≤ (12 + y1).toNatClampNeg
        · rw [if_pos h695] at e; cases e
        rw [if_neg h695] at e
        refine mm_T.guard (y := ((81, [some (.ref 62), some (.int y1), some (.int y2), some (.int y3), some (.int y4), some (.int y5), none], [(.int (o692.2 84 (12 + y1).toNatClampNeg)), (.int (o692.2 85 (12 + y1).toNatClampNeg)), (.int 100)]), (107, o692.2, J, mm_rf rv sp rr w nw))) rfl h695 ?_
        refine mm_T.seg (f' := (91, [some (.ref 62), some (.int y1), some (.int y2), some (.int y3), some (.int y4), some (.int y5), none], [(.int (8 + y1)), (.ref 85), (.int (100 * ((o692.2 85 (12 + y1).toNatClampNeg) - (o692.2 84 (12 + y1).toNatClampNeg))))])) (h' := (107, o692.2, J, mm_rf rv sp rr w nw)) 7 rfl ?_
        by_cases h696 : (8 + y1) < 0 ∨ 28 ≤ (8 + y1).toNatClampNeg
        · rw [if_pos h696] at e; cases e
        rw [if_neg h696] at e
        refine mm_T.guard (y := ((92, [some (.ref 62), some (.int y1), some (.int y2), some (.int y3), some (.int y4), some (.int y5), none], [(.int (o692.2 85 (8 + y1).toNatClampNeg)), (.int (100 * ((o692.2 85 (12 + y1).toNatClampNeg) - (o692.2 84 (12 + y1).toNatClampNeg))))]), (107, o692.2, J, mm_rf rv sp rr w nw))) rfl h696 ?_
        refine mm_T.seg (f' := (98, [some (.ref 62), some (.int y1), some (.int y2), some (.int y3), some (.int y4), some (.int y5), some (.int ((100 * ((o692.2 85 (12 + y1).toNatClampNeg) - (o692.2 84 (12 + y1).toNatClampNeg))) + (o692.2 85 (8 + y1).toNatClampNeg)))], [(.int y3), (.int ((100 * ((o692.2 85 (12 + y1).toNatClampNeg) - (o692.2 84 (12 + y1).toNatClampNeg))) + (o692.2 85 (8 + y1).toNatClampNeg)))])) (h' := (107, o692.2, J, mm_rf rv sp rr w nw)) 4 rfl ?_
        refine mm_T.br (c := ((100 * ((o692.2 85 (12 + y1).toNatClampNeg) - (o692.2 84 (12 + y1).toNatClampNeg))) + (o692.2 85 (8 + y1).toNatClampNeg)) < y3) (a := ((104, [some (.ref 62), some (.int y1), some (.int y2), some (.int y3), some (.int y4), some (.int y5), some (.int ((100 * ((o692.2 85 (12 + y1).toNatClampNeg) - (o692.2 84 (12 + y1).toNatClampNeg))) + (o692.2 85 (8 + y1).toNatClampNeg)))], []), (107, o692.2, J, mm_rf rv sp rr w nw))) (b := ((101, [some (.ref 62), some (.int y1), some (.int y2), some (.int y3), some (.int y4), some (.int y5), some (.int ((100 * ((o692.2 85 (12 + y1).toNatClampNeg) - (o692.2 84 (12 + y1).toNatClampNeg))) + (o692.2 85 (8 + y1).toNatClampNeg)))], []), (107, o692.2, J, mm_rf rv sp rr w nw))) rfl (fun h697 => ?_) (fun h697 => ?_)
        · rw [if_pos h697] at e
          refine mm_T.seg (f' := (112, [some (.ref 62), some (.int y1), some (.int y2), some (.int ((100 * ((o692.2 85 (12 + y1).toNatClampNeg) - (o692.2 84 (12 + y1).toNatClampNeg))) + (o692.2 85 (8 + y1).toNatClampNeg))), some (.int y4), some (.int y5), some (.int ((100 * ((o692.2 85 (12 + y1).toNatClampNeg) - (o692.2 84 (12 + y1).toNatClampNeg))) + (o692.2 85 (8 + y1).toNatClampNeg)))], [(.int y1), (.ref 85)])) (h' := (107, o692.2, J, mm_rf rv sp rr w nw)) 5 rfl ?_
          by_cases h698 : y1 < 0 ∨ 28 ≤ y1.toNatClampNeg
          · rw [if_pos h698] at e; cases e
          rw [if_neg h698] at e
          refine mm_T.guard (y := ((113, [some (.ref 62), some (.int y1), some (.int y2), some (.int ((100 * ((o692.2 85 (12 + y1).toNatClampNeg) - (o692.2 84 (12 + y1).toNatClampNeg))) + (o692.2 85 (8 + y1).toNatClampNeg))), some (.int y4), some (.int y5), some (.int ((100 * ((o692.2 85 (12 + y1).toNatClampNeg) - (o692.2 84 (12 + y1).toNatClampNeg))) + (o692.2 85 (8 + y1).toNatClampNeg)))], [(.int (o692.2 85 y1.toNatClampNeg))]), (107, o692.2, J, mm_rf rv sp rr w nw))) rfl h698 ?_
          refine mm_T.seg (f' := (117, [some (.ref 62), some (.int y1), some (.int y2), some (.int ((100 * ((o692.2 85 (12 + y1).toNatClampNeg) - (o692.2 84 (12 + y1).toNatClampNeg))) + (o692.2 85 (8 + y1).toNatClampNeg))), some (.int (o692.2 85 y1.toNatClampNeg)), some (.int y5), some (.int ((100 * ((o692.2 85 (12 + y1).toNatClampNeg) - (o692.2 84 (12 + y1).toNatClampNeg))) + (o692.2 85 (8 + y1).toNatClampNeg)))], [(.int y1), (.ref 62)])) (h' := (107, o692.2, J, mm_rf rv sp rr w nw)) 3 rfl ?_
          obtain ⟨o699, eo699, e⟩ := mm_bind e
          refine mm_T.call (t := 280) (as := [(.ref 62), (.int y1)]) (f' := (120, [some (.ref 62), some (.int y1), some (.int y2), some (.int ((100 * ((o692.2 85 (12 + y1).toNatClampNeg) - (o692.2 84 (12 + y1).toNatClampNeg))) + (o692.2 85 (8 + y1).toNatClampNeg))), some (.int (o692.2 85 y1.toNatClampNeg)), some (.int y5), some (.int ((100 * ((o692.2 85 (12 + y1).toNatClampNeg) - (o692.2 84 (12 + y1).toNatClampNeg))) + (o692.2 85 (8 + y1).toNatClampNeg)))], [])) rfl (tX12_putSteers (d + 3) n y1 o692.2 J rv sp rr w nw o699 eo699) (fun v h hq => ?_)
          obtain ⟨rfl, rfl⟩ := hq
          refine mm_T.seg (f' := (34, [some (.ref 62), some (.int y1), some (.int y2), some (.int ((100 * ((o692.2 85 (12 + y1).toNatClampNeg) - (o692.2 84 (12 + y1).toNatClampNeg))) + (o692.2 85 (8 + y1).toNatClampNeg))), some (.int (o692.2 85 y1.toNatClampNeg)), some (.int (y5 + 1)), some (.int ((100 * ((o692.2 85 (12 + y1).toNatClampNeg) - (o692.2 84 (12 + y1).toNatClampNeg))) + (o692.2 85 (8 + y1).toNatClampNeg)))], [])) (h' := (107, o699, J, mm_rf rv sp rr w nw)) 2 rfl ?_
          refine mm_T.mask [true, true, true, true, true, true, false] ?_
          exact ih y1 y2 ((100 * ((o692.2 85 (12 + y1).toNatClampNeg) - (o692.2 84 (12 + y1).toNatClampNeg))) + (o692.2 85 (8 + y1).toNatClampNeg)) (o692.2 85 y1.toNatClampNeg) (y5 + 1) o699 J rv sp rr w nw out e k
        · rw [if_neg h697] at e
          refine mm_T.seg (f' := (34, [some (.ref 62), some (.int y1), some (.int y2), some (.int y3), some (.int y4), some (.int (y5 + 1)), some (.int ((100 * ((o692.2 85 (12 + y1).toNatClampNeg) - (o692.2 84 (12 + y1).toNatClampNeg))) + (o692.2 85 (8 + y1).toNatClampNeg)))], [])) (h' := (107, o692.2, J, mm_rf rv sp rr w nw)) 3 rfl ?_
          refine mm_T.mask [true, true, true, true, true, true, false] ?_
          exact ih y1 y2 y3 y4 (y5 + 1) o692.2 J rv sp rr w nw out e k
    · rw [if_neg h691] at e
      cases e
      refine mm_T.mask [false, false, true, true, true, false, false] ?_
      exact k
set_option maxRecDepth 100000 in
set_option maxHeartbeats 4000000 in
theorem tX12_coolest (d n : Nat) (x1 : Int32) (x2 : Int32) (I : Nat → Nat → Int32) (J : Nat → Nat → Int64) (rv sp rr w nw : Nat) (out : Int32 × (Nat → Nat → Int32)) (e : fX12_coolest n x1 x2 I = some out) : mm_T none (d + 5) 286 (mm_ent 286 [(.ref 62), (.int x1), (.int x2)]) (107, I, J, mm_rf rv sp rr w nw) (fun v h => v = some (.int out.1) ∧ h = (107, out.2, J, mm_rf rv sp rr w nw)) := by
  unfold fX12_coolest at e
  refine mm_T.seg (f' := (7, [some (.ref 62), some (.int x1), some (.int x2), none, none, none, none], [(.int x1), (.ref 62)])) (h' := (107, (mm_up I 62 61 0), J, mm_rf rv sp rr w nw)) 5 rfl ?_
  obtain ⟨o686, eo686, e⟩ := mm_bind e
  refine mm_T.call (t := 253) (as := [(.ref 62), (.int x1)]) (f' := (10, [some (.ref 62), some (.int x1), some (.int x2), none, none, none, none], [])) rfl (tX12_isBoard (d + 3) x1 (mm_up I 62 61 0) J rv sp rr w nw o686 eo686) (fun v h hq => ?_)
  obtain ⟨rfl, rfl⟩ := hq
  refine mm_T.br (c := o686 = 0) (a := ((22, [some (.ref 62), some (.int x1), some (.int x2), none, none, none, none], []), (107, (mm_up I 62 61 0), J, mm_rf rv sp rr w nw))) (b := ((13, [some (.ref 62), some (.int x1), some (.int x2), none, none, none, none], []), (107, (mm_up I 62 61 0), J, mm_rf rv sp rr w nw))) rfl (fun h687 => ?_) (fun h687 => ?_)
  · rw [if_pos h687] at e
    refine mm_T.seg (f' := (23, [some (.ref 62), some (.int x1), some (.int x2), none, none, none, none], [(.int (-1))])) (h' := (107, (mm_up I 62 61 0), J, mm_rf rv sp rr w nw)) 1 rfl ?_
    cases e
    exact mm_T.ret rfl ⟨rfl, rfl⟩
  · rw [if_neg h687] at e
    refine mm_T.seg (f' := (16, [some (.ref 62), some (.int x1), some (.int x2), none, none, none, none], [(.int 2), (.int 0), (.int x2)])) (h' := (107, (mm_up I 62 61 0), J, mm_rf rv sp rr w nw)) 3 rfl ?_
    refine mm_T.call (t := 252) (as := [(.int x2), (.int 0), (.int 2)]) (f' := (19, [some (.ref 62), some (.int x1), some (.int x2), none, none, none, none], [])) rfl (tX12_isIn (d + 4) x2 0 2 (mm_up I 62 61 0) J rv sp rr w nw _ rfl) (fun v h hq => ?_)
    obtain ⟨rfl, rfl⟩ := hq
    refine mm_T.br (c := (fX12_isIn x2 0 2) = 0) (a := ((22, [some (.ref 62), some (.int x1), some (.int x2), none, none, none, none], []), (107, (mm_up I 62 61 0), J, mm_rf rv sp rr w nw))) (b := ((24, [some (.ref 62), some (.int x1), some (.int x2), none, none, none, none], []), (107, (mm_up I 62 61 0), J, mm_rf rv sp rr w nw))) rfl (fun h688 => ?_) (fun h688 => ?_)
    · rw [if_pos h688] at e
      refine mm_T.seg (f' := (23, [some (.ref 62), some (.int x1), some (.int x2), none, none, none, none], [(.int (-1))])) (h' := (107, (mm_up I 62 61 0), J, mm_rf rv sp rr w nw)) 1 rfl ?_
      cases e
      exact mm_T.ret rfl ⟨rfl, rfl⟩
    · rw [if_neg h688] at e
      refine mm_T.seg (f' := (34, [some (.ref 62), some (.int x1), some (.int x2), some (.int 1000000), some (.int (-1)), some (.int 0), none], [])) (h' := (107, (mm_up I 62 61 0), J, mm_rf rv sp rr w nw)) 6 rfl ?_
      refine mm_T.mask [true, true, true, true, true, true, false] ?_
      obtain ⟨o700, eo700, e⟩ := mm_bind e
      refine tlX12_coolest_L34 d _ n x1 x2 1000000 (-1) 0 (mm_up I 62 61 0) J rv sp rr w nw o700 eo700 ?_
      refine mm_T.seg (f' := (128, [none, none, some (.int x2), some (.int o700.1), some (.int o700.2.1), none, none], [(.int o700.2.1)])) (h' := (107, o700.2.2, J, mm_rf rv sp rr w nw)) 1 rfl ?_
      refine mm_T.br (c := o700.2.1 < 0) (a := ((131, [none, none, some (.int x2), some (.int o700.1), some (.int o700.2.1), none, none], []), (107, o700.2.2, J, mm_rf rv sp rr w nw))) (b := ((135, [none, none, some (.int x2), some (.int o700.1), some (.int o700.2.1), none, none], []), (107, o700.2.2, J, mm_rf rv sp rr w nw))) rfl (fun h701 => ?_) (fun h701 => ?_)
      · rw [if_pos h701] at e
        refine mm_T.seg (f' := (160, [none, none, some (.int x2), some (.int o700.1), some (.int o700.2.1), none, none], [(.int (-1))])) (h' := (107, o700.2.2, J, mm_rf rv sp rr w nw)) 2 rfl ?_
        cases e
        exact mm_T.ret rfl ⟨rfl, rfl⟩
      · rw [if_neg h701] at e
        refine mm_T.seg (f' := (136, [none, none, some (.int x2), some (.int o700.1), some (.int o700.2.1), none, none], [(.int x2)])) (h' := (107, o700.2.2, J, mm_rf rv sp rr w nw)) 1 rfl ?_
        refine mm_T.br (c := x2 = 0) (a := ((139, [none, none, some (.int x2), some (.int o700.1), some (.int o700.2.1), none, none], []), (107, o700.2.2, J, mm_rf rv sp rr w nw))) (b := ((146, [none, none, some (.int x2), some (.int o700.1), some (.int o700.2.1), none, none], []), (107, o700.2.2, J, mm_rf rv sp rr w nw))) rfl (fun h702 => ?_) (fun h702 => ?_)
        · rw [if_pos h702] at e
          refine mm_T.seg (f' := (160, [none, none, some (.int x2), some (.int o700.1), some (.int o700.2.1), none, none], [(.int (o700.1 / 100))])) (h' := (107, o700.2.2, J, mm_rf rv sp rr w nw)) 4 rfl ?_
          cases e
          exact mm_T.ret rfl ⟨rfl, rfl⟩
        · rw [if_neg h702] at e
          refine mm_T.seg (f' := (148, [none, none, some (.int x2), some (.int o700.1), some (.int o700.2.1), none, none], [(.int 1), (.int x2)])) (h' := (107, o700.2.2, J, mm_rf rv sp rr w nw)) 2 rfl ?_
          refine mm_T.br (c := x2 = 1) (a := ((151, [none, none, some (.int x2), some (.int o700.1), some (.int o700.2.1), none, none], []), (107, o700.2.2, J, mm_rf rv sp rr w nw))) (b := ((158, [none, none, some (.int x2), some (.int o700.1), some (.int o700.2.1), none, none], []), (107, o700.2.2, J, mm_rf rv sp rr w nw))) rfl (fun h703 => ?_) (fun h703 => ?_)
          · rw [if_pos h703] at e
            refine mm_T.seg (f' := (160, [none, none, some (.int x2), some (.int o700.1), some (.int o700.2.1), none, none], [(.int (o700.1 - o700.1 / 100 * 100))])) (h' := (107, o700.2.2, J, mm_rf rv sp rr w nw)) 4 rfl ?_
            cases e
            exact mm_T.ret rfl ⟨rfl, rfl⟩
          · rw [if_neg h703] at e
            refine mm_T.seg (f' := (160, [none, none, some (.int x2), some (.int o700.1), some (.int o700.2.1), none, none], [(.int o700.2.1)])) (h' := (107, o700.2.2, J, mm_rf rv sp rr w nw)) 1 rfl ?_
            cases e
            exact mm_T.ret rfl ⟨rfl, rfl⟩
