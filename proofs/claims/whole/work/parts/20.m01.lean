def fX12_hasRelation_L7 (n : Nat) (y1 : Int32) (I : Nat → Nat → Int32) : Option (Int32) := match n with
  | 0 => none
  | n + 1 => (if y1 < 0 then some y1 else (if y1 < 0 ∨ 160 ≤ y1.toNatClampNeg then none else (if (I 69 y1.toNatClampNeg) = 20 then some y1 else (if y1 < 0 ∨ 160 ≤ y1.toNatClampNeg then none else (if 4 < (fX12_tight (I 69 y1.toNatClampNeg)) then fX12_hasRelation_L7 n (y1 + (-1)) I else some y1)))))
def fX12_hasRelation (n : Nat) (I : Nat → Nat → Int32) : Option (Int32) := (fX12_hasRelation_L7 n ((I 62 19) - 1) I).bind fun o126 => (if o126 < 0 then some 0 else (if o126 < 0 ∨ 160 ≤ o126.toNatClampNeg then none else (if (I 69 o126.toNatClampNeg) = 20 then some 0 else (if o126 < 0 ∨ 160 ≤ o126.toNatClampNeg then none else (if (fX12_tight (I 69 o126.toNatClampNeg)) = 4 then some 1 else some 0)))))
set_option maxRecDepth 100000 in
set_option maxHeartbeats 4000000 in
theorem tlX12_hasRelation_L7 (d : Nat) (Q : Option Value → mm_H → Prop) : ∀ (n : Nat) (y1 : Int32) (I : Nat → Nat → Int32) (J : Nat → Nat → Int64) (rv sp rr w nw : Nat), ∀ (out : Int32), fX12_hasRelation_L7 n y1 I = some out → mm_T none (d + 1) 226 (41, [some (.ref 62), some (.int out)], []) (107, I, J, mm_rf rv sp rr w nw) Q → mm_T none (d + 1) 226 (7, [some (.ref 62), some (.int y1)], []) (107, I, J, mm_rf rv sp rr w nw) Q := by
  intro n
  induction n with
  | zero =>
    intro y1 I J rv sp rr w nw out e k
    rw [fX12_hasRelation_L7] at e; cases e
  | succ n ih =>
    intro y1 I J rv sp rr w nw out e k
    rw [fX12_hasRelation_L7] at e
    refine mm_T.seg (f' := (8, [some (.ref 62), some (.int y1)], [(.int y1)])) (h' := (107, I, J, mm_rf rv sp rr w nw)) 1 rfl ?_
    refine mm_T.br (c := y1 < 0) (a := ((41, [some (.ref 62), some (.int y1)], []), (107, I, J, mm_rf rv sp rr w nw))) (b := ((11, [some (.ref 62), some (.int y1)], []), (107, I, J, mm_rf rv sp rr w nw))) rfl (fun h121 => ?_) (fun h121 => ?_)
    · rw [if_pos h121] at e
      cases e
      refine mm_T.mask [true, true] ?_
      exact k
    · rw [if_neg h121] at e
      refine mm_T.seg (f' := (16, [some (.ref 62), some (.int y1)], [(.int y1), (.ref 69)])) (h' := (107, I, J, mm_rf rv sp rr w nw)) 3 rfl ?_
      by_cases h122 : y1 < 0 ∨ 160 ≤ y1.toNatClampNeg
      · rw [if_pos h122] at e; cases e
      rw [if_neg h122] at e
      refine mm_T.guard (y := ((17, [some (.ref 62), some (.int y1)], [(.int (I 69 y1.toNatClampNeg))]), (107, I, J, mm_rf rv sp rr w nw))) rfl h122 ?_
      refine mm_T.seg (f' := (19, [some (.ref 62), some (.int y1)], [(.int 20), (.int (I 69 y1.toNatClampNeg))])) (h' := (107, I, J, mm_rf rv sp rr w nw)) 1 rfl ?_
      refine mm_T.br (c := (I 69 y1.toNatClampNeg) = 20) (a := ((41, [some (.ref 62), some (.int y1)], []), (107, I, J, mm_rf rv sp rr w nw))) (b := ((22, [some (.ref 62), some (.int y1)], []), (107, I, J, mm_rf rv sp rr w nw))) rfl (fun h123 => ?_) (fun h123 => ?_)
      · rw [if_pos h123] at e
        cases e
        refine mm_T.mask [true, true] ?_
        exact k
      · rw [if_neg h123] at e
        refine mm_T.seg (f' := (27, [some (.ref 62), some (.int y1)], [(.int y1), (.ref 69)])) (h' := (107, I, J, mm_rf rv sp rr w nw)) 3 rfl ?_
        by_cases h124 : y1 < 0 ∨ 160 ≤ y1.toNatClampNeg
        · rw [if_pos h124] at e; cases e
        rw [if_neg h124] at e
        refine mm_T.guard (y := ((28, [some (.ref 62), some (.int y1)], [(.int (I 69 y1.toNatClampNeg))]), (107, I, J, mm_rf rv sp rr w nw))) rfl h124 ?_
        refine mm_T.call (t := 224) (as := [(.int (I 69 y1.toNatClampNeg))]) (f' := (31, [some (.ref 62), some (.int y1)], [])) rfl (tX12_tight (d + 0) (I 69 y1.toNatClampNeg) I J rv sp rr w nw _ rfl) (fun v h hq => ?_)
        obtain ⟨rfl, rfl⟩ := hq
        refine mm_T.seg (f' := (32, [some (.ref 62), some (.int y1)], [(.int 4), (.int (fX12_tight (I 69 y1.toNatClampNeg)))])) (h' := (107, I, J, mm_rf rv sp rr w nw)) 1 rfl ?_
        refine mm_T.br (c := 4 < (fX12_tight (I 69 y1.toNatClampNeg))) (a := ((35, [some (.ref 62), some (.int y1)], []), (107, I, J, mm_rf rv sp rr w nw))) (b := ((41, [some (.ref 62), some (.int y1)], []), (107, I, J, mm_rf rv sp rr w nw))) rfl (fun h125 => ?_) (fun h125 => ?_)
        · rw [if_pos h125] at e
          refine mm_T.seg (f' := (7, [some (.ref 62), some (.int (y1 + (-1)))], [])) (h' := (107, I, J, mm_rf rv sp rr w nw)) 2 rfl ?_
          refine mm_T.mask [true, true] ?_
          exact ih (y1 + (-1)) I J rv sp rr w nw out e k
        · rw [if_neg h125] at e
          cases e
          refine mm_T.mask [true, true] ?_
          exact k
set_option maxRecDepth 100000 in
set_option maxHeartbeats 4000000 in
theorem tX12_hasRelation (d n : Nat) (I : Nat → Nat → Int32) (J : Nat → Nat → Int64) (rv sp rr w nw : Nat) (out : Int32) (e : fX12_hasRelation n I = some out) : mm_T none (d + 1) 226 (mm_ent 226 [(.ref 62)]) (107, I, J, mm_rf rv sp rr w nw) (fun v h => v = some (.int out) ∧ h = (107, I, J, mm_rf rv sp rr w nw)) := by
  unfold fX12_hasRelation at e
  refine mm_T.seg (f' := (7, [some (.ref 62), some (.int ((I 62 19) - 1))], [])) (h' := (107, I, J, mm_rf rv sp rr w nw)) 5 rfl ?_
  refine mm_T.mask [true, true] ?_
  obtain ⟨o126, eo126, e⟩ := mm_bind e
  refine tlX12_hasRelation_L7 d _ n ((I 62 19) - 1) I J rv sp rr w nw o126 eo126 ?_
  refine mm_T.seg (f' := (42, [some (.ref 62), some (.int o126)], [(.int o126)])) (h' := (107, I, J, mm_rf rv sp rr w nw)) 1 rfl ?_
  refine mm_T.br (c := o126 < 0) (a := ((73, [some (.ref 62), some (.int o126)], []), (107, I, J, mm_rf rv sp rr w nw))) (b := ((45, [some (.ref 62), some (.int o126)], []), (107, I, J, mm_rf rv sp rr w nw))) rfl (fun h127 => ?_) (fun h127 => ?_)
  · rw [if_pos h127] at e
    refine mm_T.seg (f' := (74, [some (.ref 62), some (.int o126)], [(.int 0)])) (h' := (107, I, J, mm_rf rv sp rr w nw)) 1 rfl ?_
    cases e
    exact mm_T.ret rfl ⟨rfl, rfl⟩
  · rw [if_neg h127] at e
    refine mm_T.seg (f' := (50, [some (.ref 62), some (.int o126)], [(.int o126), (.ref 69)])) (h' := (107, I, J, mm_rf rv sp rr w nw)) 3 rfl ?_
    by_cases h128 : o126 < 0 ∨ 160 ≤ o126.toNatClampNeg
    · rw [if_pos h128] at e; cases e
    rw [if_neg h128] at e
    refine mm_T.guard (y := ((51, [some (.ref 62), some (.int o126)], [(.int (I 69 o126.toNatClampNeg))]), (107, I, J, mm_rf rv sp rr w nw))) rfl h128 ?_
    refine mm_T.seg (f' := (53, [some (.ref 62), some (.int o126)], [(.int 20), (.int (I 69 o126.toNatClampNeg))])) (h' := (107, I, J, mm_rf rv sp rr w nw)) 1 rfl ?_
    refine mm_T.br (c := (I 69 o126.toNatClampNeg) = 20) (a := ((73, [some (.ref 62), some (.int o126)], []), (107, I, J, mm_rf rv sp rr w nw))) (b := ((56, [some (.ref 62), some (.int o126)], []), (107, I, J, mm_rf rv sp rr w nw))) rfl (fun h129 => ?_) (fun h129 => ?_)
    · rw [if_pos h129] at e
      refine mm_T.seg (f' := (74, [some (.ref 62), some (.int o126)], [(.int 0)])) (h' := (107, I, J, mm_rf rv sp rr w nw)) 1 rfl ?_
      cases e
      exact mm_T.ret rfl ⟨rfl, rfl⟩
    · rw [if_neg h129] at e
      refine mm_T.seg (f' := (61, [some (.ref 62), some (.int o126)], [(.int o126), (.ref 69)])) (h' := (107, I, J, mm_rf rv sp rr w nw)) 3 rfl ?_
      by_cases h130 : o126 < 0 ∨ 160 ≤ o126.toNatClampNeg
      · rw [if_pos h130] at e; cases e
      rw [if_neg h130] at e
      refine mm_T.guard (y := ((62, [some (.ref 62), some (.int o126)], [(.int (I 69 o126.toNatClampNeg))]), (107, I, J, mm_rf rv sp rr w nw))) rfl h130 ?_
      refine mm_T.call (t := 224) (as := [(.int (I 69 o126.toNatClampNeg))]) (f' := (65, [some (.ref 62), some (.int o126)], [])) rfl (tX12_tight (d + 0) (I 69 o126.toNatClampNeg) I J rv sp rr w nw _ rfl) (fun v h hq => ?_)
      obtain ⟨rfl, rfl⟩ := hq
      refine mm_T.seg (f' := (66, [some (.ref 62), some (.int o126)], [(.int 4), (.int (fX12_tight (I 69 o126.toNatClampNeg)))])) (h' := (107, I, J, mm_rf rv sp rr w nw)) 1 rfl ?_
      refine mm_T.br (c := (fX12_tight (I 69 o126.toNatClampNeg)) = 4) (a := ((69, [some (.ref 62), some (.int o126)], []), (107, I, J, mm_rf rv sp rr w nw))) (b := ((73, [some (.ref 62), some (.int o126)], []), (107, I, J, mm_rf rv sp rr w nw))) rfl (fun h131 => ?_) (fun h131 => ?_)
      · rw [if_pos h131] at e
        refine mm_T.seg (f' := (74, [some (.ref 62), some (.int o126)], [(.int 1)])) (h' := (107, I, J, mm_rf rv sp rr w nw)) 2 rfl ?_
        cases e
        exact mm_T.ret rfl ⟨rfl, rfl⟩
      · rw [if_neg h131] at e
        refine mm_T.seg (f' := (74, [some (.ref 62), some (.int o126)], [(.int 0)])) (h' := (107, I, J, mm_rf rv sp rr w nw)) 1 rfl ?_
        cases e
        exact mm_T.ret rfl ⟨rfl, rfl⟩
def fX12_mayNot (I : Nat → Nat → Int32) : Option (Int32) := (if (I 62 19) = 0 then some 1 else (if ((I 62 19) - 1) < 0 ∨ 160 ≤ ((I 62 19) - 1).toNatClampNeg then none else (if (I 69 ((I 62 19) - 1).toNatClampNeg) = 20 then some 1 else (if ((I 62 19) - 1) < 0 ∨ 160 ≤ ((I 62 19) - 1).toNatClampNeg then none else (if (fX12_tight (I 69 ((I 62 19) - 1).toNatClampNeg)) < 4 then some 1 else some 0)))))
set_option maxRecDepth 100000 in
set_option maxHeartbeats 4000000 in
theorem tX12_mayNot (d : Nat) (I : Nat → Nat → Int32) (J : Nat → Nat → Int64) (rv sp rr w nw : Nat) (out : Int32) (e : fX12_mayNot I = some out) : mm_T none (d + 1) 227 (mm_ent 227 [(.ref 62)]) (107, I, J, mm_rf rv sp rr w nw) (fun v h => v = some (.int out) ∧ h = (107, I, J, mm_rf rv sp rr w nw)) := by
  unfold fX12_mayNot at e
  refine mm_T.seg (f' := (4, [some (.ref 62)], [(.int (I 62 19))])) (h' := (107, I, J, mm_rf rv sp rr w nw)) 2 rfl ?_
  refine mm_T.br (c := (I 62 19) = 0) (a := ((41, [some (.ref 62)], []), (107, I, J, mm_rf rv sp rr w nw))) (b := ((7, [some (.ref 62)], []), (107, I, J, mm_rf rv sp rr w nw))) rfl (fun h132 => ?_) (fun h132 => ?_)
  · rw [if_pos h132] at e
    refine mm_T.seg (f' := (46, [some (.ref 62)], [(.int 1)])) (h' := (107, I, J, mm_rf rv sp rr w nw)) 2 rfl ?_
    cases e
    exact mm_T.ret rfl ⟨rfl, rfl⟩
  · rw [if_neg h132] at e
    refine mm_T.seg (f' := (17, [some (.ref 62)], [(.int ((I 62 19) - 1)), (.ref 69)])) (h' := (107, I, J, mm_rf rv sp rr w nw)) 6 rfl ?_
    by_cases h133 : ((I 62 19) - 1) < 0 ∨ 160 ≤ ((I 62 19) - 1).toNatClampNeg
    · rw [if_pos h133] at e; cases e
    rw [if_neg h133] at e
    refine mm_T.guard (y := ((18, [some (.ref 62)], [(.int (I 69 ((I 62 19) - 1).toNatClampNeg))]), (107, I, J, mm_rf rv sp rr w nw))) rfl h133 ?_
    refine mm_T.seg (f' := (20, [some (.ref 62)], [(.int 20), (.int (I 69 ((I 62 19) - 1).toNatClampNeg))])) (h' := (107, I, J, mm_rf rv sp rr w nw)) 1 rfl ?_
    refine mm_T.br (c := (I 69 ((I 62 19) - 1).toNatClampNeg) = 20) (a := ((41, [some (.ref 62)], []), (107, I, J, mm_rf rv sp rr w nw))) (b := ((23, [some (.ref 62)], []), (107, I, J, mm_rf rv sp rr w nw))) rfl (fun h134 => ?_) (fun h134 => ?_)
    · rw [if_pos h134] at e
      refine mm_T.seg (f' := (46, [some (.ref 62)], [(.int 1)])) (h' := (107, I, J, mm_rf rv sp rr w nw)) 2 rfl ?_
      cases e
      exact mm_T.ret rfl ⟨rfl, rfl⟩
    · rw [if_neg h134] at e
      refine mm_T.seg (f' := (33, [some (.ref 62)], [(.int ((I 62 19) - 1)), (.ref 69)])) (h' := (107, I, J, mm_rf rv sp rr w nw)) 6 rfl ?_
      by_cases h135 : ((I 62 19) - 1) < 0 ∨ 160 ≤ ((I 62 19) - 1).toNatClampNeg
      · rw [if_pos h135] at e; cases e
      rw [if_neg h135] at e
      refine mm_T.guard (y := ((34, [some (.ref 62)], [(.int (I 69 ((I 62 19) - 1).toNatClampNeg))]), (107, I, J, mm_rf rv sp rr w nw))) rfl h135 ?_
      refine mm_T.call (t := 224) (as := [(.int (I 69 ((I 62 19) - 1).toNatClampNeg))]) (f' := (37, [some (.ref 62)], [])) rfl (tX12_tight (d + 0) (I 69 ((I 62 19) - 1).toNatClampNeg) I J rv sp rr w nw _ rfl) (fun v h hq => ?_)
      obtain ⟨rfl, rfl⟩ := hq
      refine mm_T.seg (f' := (38, [some (.ref 62)], [(.int 4), (.int (fX12_tight (I 69 ((I 62 19) - 1).toNatClampNeg)))])) (h' := (107, I, J, mm_rf rv sp rr w nw)) 1 rfl ?_
      refine mm_T.br (c := (fX12_tight (I 69 ((I 62 19) - 1).toNatClampNeg)) < 4) (a := ((41, [some (.ref 62)], []), (107, I, J, mm_rf rv sp rr w nw))) (b := ((45, [some (.ref 62)], []), (107, I, J, mm_rf rv sp rr w nw))) rfl (fun h136 => ?_) (fun h136 => ?_)
      · rw [if_pos h136] at e
        refine mm_T.seg (f' := (46, [some (.ref 62)], [(.int 1)])) (h' := (107, I, J, mm_rf rv sp rr w nw)) 2 rfl ?_
        cases e
        exact mm_T.ret rfl ⟨rfl, rfl⟩
      · rw [if_neg h136] at e
        refine mm_T.seg (f' := (46, [some (.ref 62)], [(.int 0)])) (h' := (107, I, J, mm_rf rv sp rr w nw)) 1 rfl ?_
        cases e
        exact mm_T.ret rfl ⟨rfl, rfl⟩
def fX12_asked (I : Nat → Nat → Int32) (J : Nat → Nat → Int64) : Int32 := (if (I 62 6) = 1 then (if (lg_cmp (J 62 9) 7499639) = 0 then 0 else (if (lg_cmp (J 62 9) 109330212154734) = 0 then 1 else (if (lg_cmp (J 62 9) 1819238756) = 0 then 2 else (if (lg_cmp (J 62 9) 2003395685) = 0 then 3 else (if (lg_cmp (J 62 9) 32497657166128499) = 0 then 4 else (if (lg_cmp (J 62 9) 6844276) = 0 then 5 else (-1))))))) else (-1))
set_option maxRecDepth 100000 in
set_option maxHeartbeats 4000000 in
theorem tX12_asked (d : Nat) (I : Nat → Nat → Int32) (J : Nat → Nat → Int64) (rv sp rr w nw : Nat) (out : Int32) (e : fX12_asked I J = out) : mm_T none (d + 0) 228 (mm_ent 228 [(.ref 62)]) (107, I, J, mm_rf rv sp rr w nw) (fun v h => v = some (.int out) ∧ h = (107, I, J, mm_rf rv sp rr w nw)) := by
  unfold fX12_asked at e
  refine mm_T.seg (f' := (5, [some (.ref 62)], [(.int 1), (.int (I 62 6))])) (h' := (107, I, J, mm_rf rv sp rr w nw)) 3 rfl ?_
  refine mm_T.br (c := (I 62 6) = 1) (a := ((10, [some (.ref 62)], []), (107, I, J, mm_rf rv sp rr w nw))) (b := ((8, [some (.ref 62)], []), (107, I, J, mm_rf rv sp rr w nw))) rfl (fun h137 => ?_) (fun h137 => ?_)
  · rw [if_pos h137] at e
    refine mm_T.seg (f' := (18, [some (.ref 62)], [(.int (lg_cmp (J 62 9) 7499639))])) (h' := (107, I, J, mm_rf rv sp rr w nw)) 4 rfl ?_
    refine mm_T.br (c := (lg_cmp (J 62 9) 7499639) = 0) (a := ((21, [some (.ref 62)], []), (107, I, J, mm_rf rv sp rr w nw))) (b := ((23, [some (.ref 62)], []), (107, I, J, mm_rf rv sp rr w nw))) rfl (fun h138 => ?_) (fun h138 => ?_)
    · rw [if_pos h138] at e
      refine mm_T.seg (f' := (22, [some (.ref 62)], [(.int 0)])) (h' := (107, I, J, mm_rf rv sp rr w nw)) 1 rfl ?_
      cases e
      exact mm_T.ret rfl ⟨rfl, rfl⟩
    · rw [if_neg h138] at e
      refine mm_T.seg (f' := (31, [some (.ref 62)], [(.int (lg_cmp (J 62 9) 109330212154734))])) (h' := (107, I, J, mm_rf rv sp rr w nw)) 4 rfl ?_
      refine mm_T.br (c := (lg_cmp (J 62 9) 109330212154734) = 0) (a := ((34, [some (.ref 62)], []), (107, I, J, mm_rf rv sp rr w nw))) (b := ((36, [some (.ref 62)], []), (107, I, J, mm_rf rv sp rr w nw))) rfl (fun h139 => ?_) (fun h139 => ?_)
      · rw [if_pos h139] at e
        refine mm_T.seg (f' := (35, [some (.ref 62)], [(.int 1)])) (h' := (107, I, J, mm_rf rv sp rr w nw)) 1 rfl ?_
        cases e
        exact mm_T.ret rfl ⟨rfl, rfl⟩
      · rw [if_neg h139] at e
        refine mm_T.seg (f' := (44, [some (.ref 62)], [(.int (lg_cmp (J 62 9) 1819238756))])) (h' := (107, I, J, mm_rf rv sp rr w nw)) 4 rfl ?_
        refine mm_T.br (c := (lg_cmp (J 62 9) 1819238756) = 0) (a := ((47, [some (.ref 62)], []), (107, I, J, mm_rf rv sp rr w nw))) (b := ((49, [some (.ref 62)], []), (107, I, J, mm_rf rv sp rr w nw))) rfl (fun h140 => ?_) (fun h140 => ?_)
        · rw [if_pos h140] at e
          refine mm_T.seg (f' := (48, [some (.ref 62)], [(.int 2)])) (h' := (107, I, J, mm_rf rv sp rr w nw)) 1 rfl ?_
          cases e
          exact mm_T.ret rfl ⟨rfl, rfl⟩
        · rw [if_neg h140] at e
          refine mm_T.seg (f' := (57, [some (.ref 62)], [(.int (lg_cmp (J 62 9) 2003395685))])) (h' := (107, I, J, mm_rf rv sp rr w nw)) 4 rfl ?_
          refine mm_T.br (c := (lg_cmp (J 62 9) 2003395685) = 0) (a := ((60, [some (.ref 62)], []), (107, I, J, mm_rf rv sp rr w nw))) (b := ((62, [some (.ref 62)], []), (107, I, J, mm_rf rv sp rr w nw))) rfl (fun h141 => ?_) (fun h141 => ?_)
          · rw [if_pos h141] at e
            refine mm_T.seg (f' := (61, [some (.ref 62)], [(.int 3)])) (h' := (107, I, J, mm_rf rv sp rr w nw)) 1 rfl ?_
            cases e
            exact mm_T.ret rfl ⟨rfl, rfl⟩
          · rw [if_neg h141] at e
            refine mm_T.seg (f' := (70, [some (.ref 62)], [(.int (lg_cmp (J 62 9) 32497657166128499))])) (h' := (107, I, J, mm_rf rv sp rr w nw)) 4 rfl ?_
            refine mm_T.br (c := (lg_cmp (J 62 9) 32497657166128499) = 0) (a := ((73, [some (.ref 62)], []), (107, I, J, mm_rf rv sp rr w nw))) (b := ((75, [some (.ref 62)], []), (107, I, J, mm_rf rv sp rr w nw))) rfl (fun h142 => ?_) (fun h142 => ?_)
            · rw [if_pos h142] at e
              refine mm_T.seg (f' := (74, [some (.ref 62)], [(.int 4)])) (h' := (107, I, J, mm_rf rv sp rr w nw)) 1 rfl ?_
              cases e
              exact mm_T.ret rfl ⟨rfl, rfl⟩
            · rw [if_neg h142] at e
              refine mm_T.seg (f' := (83, [some (.ref 62)], [(.int (lg_cmp (J 62 9) 6844276))])) (h' := (107, I, J, mm_rf rv sp rr w nw)) 4 rfl ?_
              refine mm_T.br (c := (lg_cmp (J 62 9) 6844276) = 0) (a := ((86, [some (.ref 62)], []), (107, I, J, mm_rf rv sp rr w nw))) (b := ((90, [some (.ref 62)], []), (107, I, J, mm_rf rv sp rr w nw))) rfl (fun h143 => ?_) (fun h143 => ?_)
              · rw [if_pos h143] at e
                refine mm_T.seg (f' := (91, [some (.ref 62)], [(.int 5)])) (h' := (107, I, J, mm_rf rv sp rr w nw)) 2 rfl ?_
                cases e
                exact mm_T.ret rfl ⟨rfl, rfl⟩
              · rw [if_neg h143] at e
                refine mm_T.seg (f' := (91, [some (.ref 62)], [(.int (-1))])) (h' := (107, I, J, mm_rf rv sp rr w nw)) 1 rfl ?_
                cases e
                exact mm_T.ret rfl ⟨rfl, rfl⟩
  · rw [if_neg h137] at e
    refine mm_T.seg (f' := (9, [some (.ref 62)], [(.int (-1))])) (h' := (107, I, J, mm_rf rv sp rr w nw)) 1 rfl ?_
    cases e
    exact mm_T.ret rfl ⟨rfl, rfl⟩
def fX12_isFull (I : Nat → Nat → Int32) : Int32 := (if (I 62 20) = 60 then 1 else (if (I 62 22) = 30 then 1 else 0))
set_option maxRecDepth 100000 in
set_option maxHeartbeats 4000000 in
theorem tX12_isFull (d : Nat) (I : Nat → Nat → Int32) (J : Nat → Nat → Int64) (rv sp rr w nw : Nat) (out : Int32) (e : fX12_isFull I = out) : mm_T none (d + 0) 229 (mm_ent 229 [(.ref 62)]) (107, I, J, mm_rf rv sp rr w nw) (fun v h => v = some (.int out) ∧ h = (107, I, J, mm_rf rv sp rr w nw)) := by
  unfold fX12_isFull at e
  refine mm_T.seg (f' := (6, [some (.ref 62)], [(.int 60), (.int (I 62 20))])) (h' := (107, I, J, mm_rf rv sp rr w nw)) 3 rfl ?_
  refine mm_T.br (c := (I 62 20) = 60) (a := ((18, [some (.ref 62)], []), (107, I, J, mm_rf rv sp rr w nw))) (b := ((9, [some (.ref 62)], []), (107, I, J, mm_rf rv sp rr w nw))) rfl (fun h144 => ?_) (fun h144 => ?_)
  · rw [if_pos h144] at e
    refine mm_T.seg (f' := (23, [some (.ref 62)], [(.int 1)])) (h' := (107, I, J, mm_rf rv sp rr w nw)) 2 rfl ?_
    cases e
    exact mm_T.ret rfl ⟨rfl, rfl⟩
  · rw [if_neg h144] at e
    refine mm_T.seg (f' := (15, [some (.ref 62)], [(.int 30), (.int (I 62 22))])) (h' := (107, I, J, mm_rf rv sp rr w nw)) 3 rfl ?_
    refine mm_T.br (c := (I 62 22) = 30) (a := ((18, [some (.ref 62)], []), (107, I, J, mm_rf rv sp rr w nw))) (b := ((22, [some (.ref 62)], []), (107, I, J, mm_rf rv sp rr w nw))) rfl (fun h145 => ?_) (fun h145 => ?_)
    · rw [if_pos h145] at e
      refine mm_T.seg (f' := (23, [some (.ref 62)], [(.int 1)])) (h' := (107, I, J, mm_rf rv sp rr w nw)) 2 rfl ?_
      cases e
      exact mm_T.ret rfl ⟨rfl, rfl⟩
    · rw [if_neg h145] at e
      refine mm_T.seg (f' := (23, [some (.ref 62)], [(.int 0)])) (h' := (107, I, J, mm_rf rv sp rr w nw)) 1 rfl ?_
      cases e
      exact mm_T.ret rfl ⟨rfl, rfl⟩
def fX12_countUnit (I : Nat → Nat → Int32) : (Nat → Nat → Int32) := (mm_up (mm_up I 62 20 ((I 62 20) + 1)) 62 22 ((I 62 22) + 1))
set_option maxRecDepth 100000 in
set_option maxHeartbeats 4000000 in
theorem tX12_countUnit (d : Nat) (I : Nat → Nat → Int32) (J : Nat → Nat → Int64) (rv sp rr w nw : Nat) (out : (Nat → Nat → Int32)) (e : fX12_countUnit I = out) : mm_T none (d + 0) 230 (mm_ent 230 [(.ref 62)]) (107, I, J, mm_rf rv sp rr w nw) (fun v h => v = none ∧ h = (107, out, J, mm_rf rv sp rr w nw)) := by
  unfold fX12_countUnit at e
  refine mm_T.seg (f' := (20, [some (.ref 62)], [])) (h' := (107, (mm_up (mm_up I 62 20 ((I 62 20) + 1)) 62 22 ((I 62 22) + 1)), J, mm_rf rv sp rr w nw)) 12 rfl ?_
  cases e
  exact mm_T.ret rfl ⟨rfl, rfl⟩
def fX12_openUp (n : Nat) (x1 : Int32) (I : Nat → Nat → Int32) (J : Nat → Nat → Int64) : Option ((Nat → Nat → Int32) × (Nat → Nat → Int64)) := (if (I 62 19) < 0 ∨ 160 ≤ (I 62 19).toNatClampNeg then none else (if (I 62 2) = 0 then (fX12_token n (mm_up (mm_up (mm_up I 69 (I 62 19).toNatClampNeg x1) 62 19 ((I 62 19) + 1)) 62 23 ((I 62 23) + 1)) J).bind fun o148 => some (o148.1, o148.2) else some ((mm_up (mm_up (mm_up I 69 (I 62 19).toNatClampNeg x1) 62 19 ((I 62 19) + 1)) 62 23 ((I 62 23) + 1)), J)))
set_option maxRecDepth 100000 in
set_option maxHeartbeats 4000000 in
theorem tX12_openUp (d n : Nat) (x1 : Int32) (I : Nat → Nat → Int32) (J : Nat → Nat → Int64) (rv sp rr w nw : Nat) (out : (Nat → Nat → Int32) × (Nat → Nat → Int64)) (e : fX12_openUp n x1 I J = some out) : mm_T none (d + 2) 231 (mm_ent 231 [(.ref 62), (.int x1)]) (107, I, J, mm_rf rv sp rr w nw) (fun v h => v = none ∧ h = (107, out.1, out.2, mm_rf rv sp rr w nw)) := by
  unfold fX12_openUp at e
  refine mm_T.seg (f' := (9, [some (.ref 62), some (.int x1)], [(.int x1), (.int (I 62 19)), (.ref 69)])) (h' := (107, I, J, mm_rf rv sp rr w nw)) 5 rfl ?_
  by_cases h146 : (I 62 19) < 0 ∨ 160 ≤ (I 62 19).toNatClampNeg
  · rw [if_pos h146] at e; cases e
  rw [if_neg h146] at e
  refine mm_T.guard (y := ((10, [some (.ref 62), some (.int x1)], []), (107, (mm_up I 69 (I 62 19).toNatClampNeg x1), J, mm_rf rv sp rr w nw))) rfl h146 ?_
  refine mm_T.seg (f' := (34, [some (.ref 62), some (.int x1)], [(.int (I 62 2))])) (h' := (107, (mm_up (mm_up (mm_up I 69 (I 62 19).toNatClampNeg x1) 62 19 ((I 62 19) + 1)) 62 23 ((I 62 23) + 1)), J, mm_rf rv sp rr w nw)) 14 rfl ?_
  refine mm_T.br (c := (I 62 2) = 0) (a := ((37, [some (.ref 62), some (.int x1)], []), (107, (mm_up (mm_up (mm_up I 69 (I 62 19).toNatClampNeg x1) 62 19 ((I 62 19) + 1)) 62 23 ((I 62 23) + 1)), J, mm_rf rv sp rr w nw))) (b := ((41, [some (.ref 62), some (.int x1)], []), (107, (mm_up (mm_up (mm_up I 69 (I 62 19).toNatClampNeg x1) 62 19 ((I 62 19) + 1)) 62 23 ((I 62 23) + 1)), J, mm_rf rv sp rr w nw))) rfl (fun h147 => ?_) (fun h147 => ?_)
  · rw [if_pos h147] at e
    refine mm_T.seg (f' := (38, [some (.ref 62), some (.int x1)], [(.ref 62)])) (h' := (107, (mm_up (mm_up (mm_up I 69 (I 62 19).toNatClampNeg x1) 62 19 ((I 62 19) + 1)) 62 23 ((I 62 23) + 1)), J, mm_rf rv sp rr w nw)) 1 rfl ?_
    obtain ⟨o148, eo148, e⟩ := mm_bind e
    refine mm_T.call (t := 214) (as := [(.ref 62)]) (f' := (41, [some (.ref 62), some (.int x1)], [])) rfl (tX12_token (d + 0) n (mm_up (mm_up (mm_up I 69 (I 62 19).toNatClampNeg x1) 62 19 ((I 62 19) + 1)) 62 23 ((I 62 23) + 1)) J rv sp rr w nw o148 eo148) (fun v h hq => ?_)
    obtain ⟨rfl, rfl⟩ := hq
    cases e
    exact mm_T.ret rfl ⟨rfl, rfl⟩
  · rw [if_neg h147] at e
    cases e
    exact mm_T.ret rfl ⟨rfl, rfl⟩
def fX12_unit_L2 (n : Nat) (y1 : Int32) (I : Nat → Nat → Int32) (J : Nat → Nat → Int64) : Option ((Nat → Nat → Int32) × (Nat → Nat → Int64)) := match n with
  | 0 => none
  | n + 1 => (if y1 = 0 then some (I, J) else (if (I 62 2) = 0 then (if (fX12_isWord 7237492 I J) = 0 then (if (I 62 6) = 40 then (if (fX12_isFull I) = 0 then (if 6 < (I 62 23) then (fX12_openUp n 20 (fX12_countUnit (fX12_wrong 2 I)) J).bind fun o155 => fX12_unit_L2 n y1 o155.1 o155.2 else (fX12_openUp n 20 (fX12_countUnit I) J).bind fun o156 => fX12_unit_L2 n y1 o156.1 o156.2) else (fX12_openUp n 20 (fX12_countUnit (fX12_wrong 2 I)) J).bind fun o157 => fX12_unit_L2 n y1 o157.1 o157.2) else fX12_unit_L2 n 0 I J) else (fX12_mayNot I).bind fun o158 => (if o158 = 0 then (if (I 62 6) = 40 then (if (fX12_isFull I) = 0 then (if 6 < (I 62 23) then (fX12_openUp n 20 (fX12_countUnit (fX12_wrong 2 I)) J).bind fun o163 => fX12_unit_L2 n y1 o163.1 o163.2 else (fX12_openUp n 20 (fX12_countUnit I) J).bind fun o164 => fX12_unit_L2 n y1 o164.1 o164.2) else (fX12_openUp n 20 (fX12_countUnit (fX12_wrong 2 I)) J).bind fun o165 => fX12_unit_L2 n y1 o165.1 o165.2) else fX12_unit_L2 n 0 I J) else (if 6 < (I 62 23) then (fX12_openUp n 21 (fX12_wrong 2 I) J).bind fun o167 => fX12_unit_L2 n y1 o167.1 o167.2 else (fX12_openUp n 21 I J).bind fun o168 => fX12_unit_L2 n y1 o168.1 o168.2))) else some (I, J)))
def fX12_unit_J160 (n : Nat) (y2 : Int32) (u0 : Int32) (I : Nat → Nat → Int32) (J : Nat → Nat → Int64) : Option ((Nat → Nat → Int32) × (Nat → Nat → Int64)) := (if y2 < 0 then (fX12_add u0 (I 62 8) I).bind fun o176 => (fX12_token n o176 J).bind fun o177 => some (o177.1, o177.2) else (fX12_add u0 y2 I).bind fun o178 => (fX12_token n o178 J).bind fun o179 => some (o179.1, o179.2))
def fX12_unit_J138 (n : Nat) (y2 : Int32) (I : Nat → Nat → Int32) (J : Nat → Nat → Int64) : Option ((Nat → Nat → Int32) × (Nat → Nat → Int64)) := (if 0 < (I 62 2) then some (I, J) else (if y2 < 0 then (fX12_unit_J160 n y2 0 (fX12_countUnit I) J) else (fX12_unit_J160 n y2 1 (fX12_countUnit I) J)))
def fX12_unit_J133 (n : Nat) (y2 : Int32) (I : Nat → Nat → Int32) (J : Nat → Nat → Int64) : Option ((Nat → Nat → Int32) × (Nat → Nat → Int64)) := (fX12_unit_J138 n y2 (fX12_wrong 2 I) J)
def fX12_unit_J126 (n : Nat) (y2 : Int32) (I : Nat → Nat → Int32) (J : Nat → Nat → Int64) : Option ((Nat → Nat → Int32) × (Nat → Nat → Int64)) := (if (fX12_isFull I) = 0 then (fX12_unit_J138 n y2 I J) else (fX12_unit_J133 n y2 I J))
def fX12_unit_J101 (n : Nat) (I : Nat → Nat → Int32) (J : Nat → Nat → Int64) : Option ((Nat → Nat → Int32) × (Nat → Nat → Int64)) := (if 0 < (I 62 2) then some (I, J) else (if (I 62 6) = 2 then (fX12_unit_J126 n (fX12_asked I J) I J) else (if (fX12_asked I J) < 0 then (fX12_unit_J133 n (fX12_asked I J) I J) else (fX12_unit_J126 n (fX12_asked I J) I J))))
def fX12_unit (n : Nat) (I : Nat → Nat → Int32) (J : Nat → Nat → Int64) : Option ((Nat → Nat → Int32) × (Nat → Nat → Int64)) := (fX12_unit_L2 n 1 I J).bind fun o169 => (fX12_unit_J101 n o169.1 o169.2)
set_option maxRecDepth 100000 in
set_option maxHeartbeats 4000000 in
theorem tlX12_unit_L2 (d : Nat) (Q : Option Value → mm_H → Prop) : ∀ (n : Nat) (y1 : Int32) (I : Nat → Nat → Int32) (J : Nat → Nat → Int64) (rv sp rr w nw : Nat), ∀ (out : (Nat → Nat → Int32) × (Nat → Nat → Int64)), fX12_unit_L2 n y1 I J = some out → mm_T none (d + 3) 232 (101, [some (.ref 62), none, none], []) (107, out.1, out.2, mm_rf rv sp rr w nw) Q → mm_T none (d + 3) 232 (2, [some (.ref 62), some (.int y1), none], []) (107, I, J, mm_rf rv sp rr w nw) Q := by
  intro n
  induction n with
  | zero =>
    intro y1 I J rv sp rr w nw out e k
    rw [fX12_unit_L2] at e; cases e
  | succ n ih =>
    intro y1 I J rv sp rr w nw out e k
    rw [fX12_unit_L2] at e
    refine mm_T.seg (f' := (3, [some (.ref 62), some (.int y1), none], [(.int y1)])) (h' := (107, I, J, mm_rf rv sp rr w nw)) 1 rfl ?_
    refine mm_T.br (c := y1 = 0) (a := ((101, [some (.ref 62), some (.int y1), none], []), (107, I, J, mm_rf rv sp rr w nw))) (b := ((6, [some (.ref 62), some (.int y1), none], []), (107, I, J, mm_rf rv sp rr w nw))) rfl (fun h149 => ?_) (fun h149 => ?_)
    · rw [if_pos h149] at e
      cases e
      refine mm_T.mask [true, false, false] ?_
      exact k
    · rw [if_neg h149] at e
      refine mm_T.seg (f' := (10, [some (.ref 62), some (.int y1), none], [(.int (I 62 2))])) (h' := (107, I, J, mm_rf rv sp rr w nw)) 2 rfl ?_
      refine mm_T.br (c := (I 62 2) = 0) (a := ((13, [some (.ref 62), some (.int y1), none], []), (107, I, J, mm_rf rv sp rr w nw))) (b := ((101, [some (.ref 62), some (.int y1), none], []), (107, I, J, mm_rf rv sp rr w nw))) rfl (fun h150 => ?_) (fun h150 => ?_)
      · rw [if_pos h150] at e
        refine mm_T.seg (f' := (17, [some (.ref 62), some (.int y1), none], [(.long 7237492), (.ref 62)])) (h' := (107, I, J, mm_rf rv sp rr w nw)) 2 rfl ?_
        refine mm_T.call (t := 216) (as := [(.ref 62), (.long 7237492)]) (f' := (20, [some (.ref 62), some (.int y1), none], [])) rfl (tX12_isWord (d + 2) 7237492 I J rv sp rr w nw _ rfl) (fun v h hq => ?_)
        obtain ⟨rfl, rfl⟩ := hq
        refine mm_T.br (c := (fX12_isWord 7237492 I J) = 0) (a := ((53, [some (.ref 62), some (.int y1), none], []), (107, I, J, mm_rf rv sp rr w nw))) (b := ((23, [some (.ref 62), some (.int y1), none], []), (107, I, J, mm_rf rv sp rr w nw))) rfl (fun h151 => ?_) (fun h151 => ?_)
        · rw [if_pos h151] at e
          refine mm_T.seg (f' := (59, [some (.ref 62), some (.int y1), none], [(.int 40), (.int (I 62 6))])) (h' := (107, I, J, mm_rf rv sp rr w nw)) 3 rfl ?_
          refine mm_T.br (c := (I 62 6) = 40) (a := ((62, [some (.ref 62), some (.int y1), none], []), (107, I, J, mm_rf rv sp rr w nw))) (b := ((96, [some (.ref 62), some (.int y1), none], []), (107, I, J, mm_rf rv sp rr w nw))) rfl (fun h152 => ?_) (fun h152 => ?_)
          · rw [if_pos h152] at e
            refine mm_T.seg (f' := (63, [some (.ref 62), some (.int y1), none], [(.ref 62)])) (h' := (107, I, J, mm_rf rv sp rr w nw)) 1 rfl ?_
            refine mm_T.call (t := 229) (as := [(.ref 62)]) (f' := (66, [some (.ref 62), some (.int y1), none], [])) rfl (tX12_isFull (d + 2) I J rv sp rr w nw _ rfl) (fun v h hq => ?_)
            obtain ⟨rfl, rfl⟩ := hq
            refine mm_T.br (c := (fX12_isFull I) = 0) (a := ((69, [some (.ref 62), some (.int y1), none], []), (107, I, J, mm_rf rv sp rr w nw))) (b := ((78, [some (.ref 62), some (.int y1), none], []), (107, I, J, mm_rf rv sp rr w nw))) rfl (fun h153 => ?_) (fun h153 => ?_)
            · rw [if_pos h153] at e
              refine mm_T.seg (f' := (75, [some (.ref 62), some (.int y1), none], [(.int 6), (.int (I 62 23))])) (h' := (107, I, J, mm_rf rv sp rr w nw)) 3 rfl ?_
              refine mm_T.br (c := 6 < (I 62 23)) (a := ((78, [some (.ref 62), some (.int y1), none], []), (107, I, J, mm_rf rv sp rr w nw))) (b := ((83, [some (.ref 62), some (.int y1), none], []), (107, I, J, mm_rf rv sp rr w nw))) rfl (fun h154 => ?_) (fun h154 => ?_)
              · rw [if_pos h154] at e
                refine mm_T.seg (f' := (80, [some (.ref 62), some (.int y1), none], [(.int 2), (.ref 62)])) (h' := (107, I, J, mm_rf rv sp rr w nw)) 2 rfl ?_
                refine mm_T.call (t := 215) (as := [(.ref 62), (.int 2)]) (f' := (83, [some (.ref 62), some (.int y1), none], [])) rfl (tX12_wrong (d + 2) 2 I J rv sp rr w nw _ rfl) (fun v h hq => ?_)
                obtain ⟨rfl, rfl⟩ := hq
                refine mm_T.seg (f' := (84, [some (.ref 62), some (.int y1), none], [(.ref 62)])) (h' := (107, (fX12_wrong 2 I), J, mm_rf rv sp rr w nw)) 1 rfl ?_
                refine mm_T.call (t := 230) (as := [(.ref 62)]) (f' := (87, [some (.ref 62), some (.int y1), none], [])) rfl (tX12_countUnit (d + 2) (fX12_wrong 2 I) J rv sp rr w nw _ rfl) (fun v h hq => ?_)
                obtain ⟨rfl, rfl⟩ := hq
                refine mm_T.seg (f' := (90, [some (.ref 62), some (.int y1), none], [(.int 20), (.ref 62)])) (h' := (107, (fX12_countUnit (fX12_wrong 2 I)), J, mm_rf rv sp rr w nw)) 2 rfl ?_
                obtain ⟨o155, eo155, e⟩ := mm_bind e
                refine mm_T.call (t := 231) (as := [(.ref 62), (.int 20)]) (f' := (93, [some (.ref 62), some (.int y1), none], [])) rfl (tX12_openUp (d + 0) n 20 (fX12_countUnit (fX12_wrong 2 I)) J rv sp rr w nw o155 eo155) (fun v h hq => ?_)
                obtain ⟨rfl, rfl⟩ := hq
                refine mm_T.seg (f' := (2, [some (.ref 62), some (.int y1), none], [])) (h' := (107, o155.1, o155.2, mm_rf rv sp rr w nw)) 1 rfl ?_
                refine mm_T.mask [true, true, false] ?_
                exact ih y1 o155.1 o155.2 rv sp rr w nw out e k
              · rw [if_neg h154] at e
                refine mm_T.seg (f' := (84, [some (.ref 62), some (.int y1), none], [(.ref 62)])) (h' := (107, I, J, mm_rf rv sp rr w nw)) 1 rfl ?_
                refine mm_T.call (t := 230) (as := [(.ref 62)]) (f' := (87, [some (.ref 62), some (.int y1), none], [])) rfl (tX12_countUnit (d + 2) I J rv sp rr w nw _ rfl) (fun v h hq => ?_)
                obtain ⟨rfl, rfl⟩ := hq
                refine mm_T.seg (f' := (90, [some (.ref 62), some (.int y1), none], [(.int 20), (.ref 62)])) (h' := (107, (fX12_countUnit I), J, mm_rf rv sp rr w nw)) 2 rfl ?_
                obtain ⟨o156, eo156, e⟩ := mm_bind e
                refine mm_T.call (t := 231) (as := [(.ref 62), (.int 20)]) (f' := (93, [some (.ref 62), some (.int y1), none], [])) rfl (tX12_openUp (d + 0) n 20 (fX12_countUnit I) J rv sp rr w nw o156 eo156) (fun v h hq => ?_)
                obtain ⟨rfl, rfl⟩ := hq
                refine mm_T.seg (f' := (2, [some (.ref 62), some (.int y1), none], [])) (h' := (107, o156.1, o156.2, mm_rf rv sp rr w nw)) 1 rfl ?_
                refine mm_T.mask [true, true, false] ?_
                exact ih y1 o156.1 o156.2 rv sp rr w nw out e k
            · rw [if_neg h153] at e
              refine mm_T.seg (f' := (80, [some (.ref 62), some (.int y1), none], [(.int 2), (.ref 62)])) (h' := (107, I, J, mm_rf rv sp rr w nw)) 2 rfl ?_
              refine mm_T.call (t := 215) (as := [(.ref 62), (.int 2)]) (f' := (83, [some (.ref 62), some (.int y1), none], [])) rfl (tX12_wrong (d + 2) 2 I J rv sp rr w nw _ rfl) (fun v h hq => ?_)
              obtain ⟨rfl, rfl⟩ := hq
              refine mm_T.seg (f' := (84, [some (.ref 62), some (.int y1), none], [(.ref 62)])) (h' := (107, (fX12_wrong 2 I), J, mm_rf rv sp rr w nw)) 1 rfl ?_
              refine mm_T.call (t := 230) (as := [(.ref 62)]) (f' := (87, [some (.ref 62), some (.int y1), none], [])) rfl (tX12_countUnit (d + 2) (fX12_wrong 2 I) J rv sp rr w nw _ rfl) (fun v h hq => ?_)
              obtain ⟨rfl, rfl⟩ := hq
              refine mm_T.seg (f' := (90, [some (.ref 62), some (.int y1), none], [(.int 20), (.ref 62)])) (h' := (107, (fX12_countUnit (fX12_wrong 2 I)), J, mm_rf rv sp rr w nw)) 2 rfl ?_
              obtain ⟨o157, eo157, e⟩ := mm_bind e
              refine mm_T.call (t := 231) (as := [(.ref 62), (.int 20)]) (f' := (93, [some (.ref 62), some (.int y1), none], [])) rfl (tX12_openUp (d + 0) n 20 (fX12_countUnit (fX12_wrong 2 I)) J rv sp rr w nw o157 eo157) (fun v h hq => ?_)
              obtain ⟨rfl, rfl⟩ := hq
              refine mm_T.seg (f' := (2, [some (.ref 62), some (.int y1), none], [])) (h' := (107, o157.1, o157.2, mm_rf rv sp rr w nw)) 1 rfl ?_
              refine mm_T.mask [true, true, false] ?_
              exact ih y1 o157.1 o157.2 rv sp rr w nw out e k
          · rw [if_neg h152] at e
            refine mm_T.seg (f' := (2, [some (.ref 62), some (.int 0), none], [])) (h' := (107, I, J, mm_rf rv sp rr w nw)) 3 rfl ?_
            refine mm_T.mask [true, true, false] ?_
            exact ih 0 I J rv sp rr w nw out e k
        · rw [if_neg h151] at e
          refine mm_T.seg (f' := (24, [some (.ref 62), some (.int y1), none], [(.ref 62)])) (h' := (107, I, J, mm_rf rv sp rr w nw)) 1 rfl ?_
          obtain ⟨o158, eo158, e⟩ := mm_bind e
          refine mm_T.call (t := 227) (as := [(.ref 62)]) (f' := (27, [some (.ref 62), some (.int y1), none], [])) rfl (tX12_mayNot (d + 1) I J rv sp rr w nw o158 eo158) (fun v h hq => ?_)
          obtain ⟨rfl, rfl⟩ := hq
          refine mm_T.br (c := o158 = 0) (a := ((53, [some (.ref 62), some (.int y1), none], []), (107, I, J, mm_rf rv sp rr w nw))) (b := ((30, [some (.ref 62), some (.int y1), none], []), (107, I, J, mm_rf rv sp rr w nw))) rfl (fun h159 => ?_) (fun h159 => ?_)
          · rw [if_pos h159] at e
            refine mm_T.seg (f' := (59, [some (.ref 62), some (.int y1), none], [(.int 40), (.int (I 62 6))])) (h' := (107, I, J, mm_rf rv sp rr w nw)) 3 rfl ?_
            refine mm_T.br (c := (I 62 6) = 40) (a := ((62, [some (.ref 62), some (.int y1), none], []), (107, I, J, mm_rf rv sp rr w nw))) (b := ((96, [some (.ref 62), some (.int y1), none], []), (107, I, J, mm_rf rv sp rr w nw))) rfl (fun h160 => ?_) (fun h160 => ?_)
            · rw [if_pos h160] at e
              refine mm_T.seg (f' := (63, [some (.ref 62), some (.int y1), none], [(.ref 62)])) (h' := (107, I, J, mm_rf rv sp rr w nw)) 1 rfl ?_
              refine mm_T.call (t := 229) (as := [(.ref 62)]) (f' := (66, [some (.ref 62), some (.int y1), none], [])) rfl (tX12_isFull (d + 2) I J rv sp rr w nw _ rfl) (fun v h hq => ?_)
              obtain ⟨rfl, rfl⟩ := hq
              refine mm_T.br (c := (fX12_isFull I) = 0) (a := ((69, [some (.ref 62), some (.int y1), none], []), (107, I, J, mm_rf rv sp rr w nw))) (b := ((78, [some (.ref 62), some (.int y1), none], []), (107, I, J, mm_rf rv sp rr w nw))) rfl (fun h161 => ?_) (fun h161 => ?_)
              · rw [if_pos h161] at e
                refine mm_T.seg (f' := (75, [some (.ref 62), some (.int y1), none], [(.int 6), (.int (I 62 23))])) (h' := (107, I, J, mm_rf rv sp rr w nw)) 3 rfl ?_
                refine mm_T.br (c := 6 < (I 62 23)) (a := ((78, [some (.ref 62), some (.int y1), none], []), (107, I, J, mm_rf rv sp rr w nw))) (b := ((83, [some (.ref 62), some (.int y1), none], []), (107, I, J, mm_rf rv sp rr w nw))) rfl (fun h162 => ?_) (fun h162 => ?_)
                · rw [if_pos h162] at e
                  refine mm_T.seg (f' := (80, [some (.ref 62), some (.int y1), none], [(.int 2), (.ref 62)])) (h' := (107, I, J, mm_rf rv sp rr w nw)) 2 rfl ?_
                  refine mm_T.call (t := 215) (as := [(.ref 62), (.int 2)]) (f' := (83, [some (.ref 62), some (.int y1), none], [])) rfl (tX12_wrong (d + 2) 2 I J rv sp rr w nw _ rfl) (fun v h hq => ?_)
                  obtain ⟨rfl, rfl⟩ := hq
                  refine mm_T.seg (f' := (84, [some (.ref 62), some (.int y1), none], [(.ref 62)])) (h' := (107, (fX12_wrong 2 I), J, mm_rf rv sp rr w nw)) 1 rfl ?_
                  refine mm_T.call (t := 230) (as := [(.ref 62)]) (f' := (87, [some (.ref 62), some (.int y1), none], [])) rfl (tX12_countUnit (d + 2) (fX12_wrong 2 I) J rv sp rr w nw _ rfl) (fun v h hq => ?_)
                  obtain ⟨rfl, rfl⟩ := hq
                  refine mm_T.seg (f' := (90, [some (.ref 62), some (.int y1), none], [(.int 20), (.ref 62)])) (h' := (107, (fX12_countUnit (fX12_wrong 2 I)), J, mm_rf rv sp rr w nw)) 2 rfl ?_
                  obtain ⟨o163, eo163, e⟩ := mm_bind e
                  refine mm_T.call (t := 231) (as := [(.ref 62), (.int 20)]) (f' := (93, [some (.ref 62), some (.int y1), none], [])) rfl (tX12_openUp (d + 0) n 20 (fX12_countUnit (fX12_wrong 2 I)) J rv sp rr w nw o163 eo163) (fun v h hq => ?_)
                  obtain ⟨rfl, rfl⟩ := hq
                  refine mm_T.seg (f' := (2, [some (.ref 62), some (.int y1), none], [])) (h' := (107, o163.1, o163.2, mm_rf rv sp rr w nw)) 1 rfl ?_
                  refine mm_T.mask [true, true, false] ?_
                  exact ih y1 o163.1 o163.2 rv sp rr w nw out e k
                · rw [if_neg h162] at e
                  refine mm_T.seg (f' := (84, [some (.ref 62), some (.int y1), none], [(.ref 62)])) (h' := (107, I, J, mm_rf rv sp rr w nw)) 1 rfl ?_
                  refine mm_T.call (t := 230) (as := [(.ref 62)]) (f' := (87, [some (.ref 62), some (.int y1), none], [])) rfl (tX12_countUnit (d + 2) I J rv sp rr w nw _ rfl) (fun v h hq => ?_)
                  obtain ⟨rfl, rfl⟩ := hq
                  refine mm_T.seg (f' := (90, [some (.ref 62), some (.int y1), none], [(.int 20), (.ref 62)])) (h' := (107, (fX12_countUnit I), J, mm_rf rv sp rr w nw)) 2 rfl ?_
                  obtain ⟨o164, eo164, e⟩ := mm_bind e
                  refine mm_T.call (t := 231) (as := [(.ref 62), (.int 20)]) (f' := (93, [some (.ref 62), some (.int y1), none], [])) rfl (tX12_openUp (d + 0) n 20 (fX12_countUnit I) J rv sp rr w nw o164 eo164) (fun v h hq => ?_)
                  obtain ⟨rfl, rfl⟩ := hq
                  refine mm_T.seg (f' := (2, [some (.ref 62), some (.int y1), none], [])) (h' := (107, o164.1, o164.2, mm_rf rv sp rr w nw)) 1 rfl ?_
                  refine mm_T.mask [true, true, false] ?_
                  exact ih y1 o164.1 o164.2 rv sp rr w nw out e k
              · rw [if_neg h161] at e
                refine mm_T.seg (f' := (80, [some (.ref 62), some (.int y1), none], [(.int 2), (.ref 62)])) (h' := (107, I, J, mm_rf rv sp rr w nw)) 2 rfl ?_
                refine mm_T.call (t := 215) (as := [(.ref 62), (.int 2)]) (f' := (83, [some (.ref 62), some (.int y1), none], [])) rfl (tX12_wrong (d + 2) 2 I J rv sp rr w nw _ rfl) (fun v h hq => ?_)
                obtain ⟨rfl, rfl⟩ := hq
                refine mm_T.seg (f' := (84, [some (.ref 62), some (.int y1), none], [(.ref 62)])) (h' := (107, (fX12_wrong 2 I), J, mm_rf rv sp rr w nw)) 1 rfl ?_
                refine mm_T.call (t := 230) (as := [(.ref 62)]) (f' := (87, [some (.ref 62), some (.int y1), none], [])) rfl (tX12_countUnit (d + 2) (fX12_wrong 2 I) J rv sp rr w nw _ rfl) (fun v h hq => ?_)
                obtain ⟨rfl, rfl⟩ := hq
                refine mm_T.seg (f' := (90, [some (.ref 62), some (.int y1), none], [(.int 20), (.ref 62)])) (h' := (107, (fX12_countUnit (fX12_wrong 2 I)), J, mm_rf rv sp rr w nw)) 2 rfl ?_
                obtain ⟨o165, eo165, e⟩ := mm_bind e
                refine mm_T.call (t := 231) (as := [(.ref 62), (.int 20)]) (f' := (93, [some (.ref 62), some (.int y1), none], [])) rfl (tX12_openUp (d + 0) n 20 (fX12_countUnit (fX12_wrong 2 I)) J rv sp rr w nw o165 eo165) (fun v h hq => ?_)
                obtain ⟨rfl, rfl⟩ := hq
                refine mm_T.seg (f' := (2, [some (.ref 62), some (.int y1), none], [])) (h' := (107, o165.1, o165.2, mm_rf rv sp rr w nw)) 1 rfl ?_
                refine mm_T.mask [true, true, false] ?_
                exact ih y1 o165.1 o165.2 rv sp rr w nw out e k
            · rw [if_neg h160] at e
              refine mm_T.seg (f' := (2, [some (.ref 62), some (.int 0), none], [])) (h' := (107, I, J, mm_rf rv sp rr w nw)) 3 rfl ?_
              refine mm_T.mask [true, true, false] ?_
              exact ih 0 I J rv sp rr w nw out e k
          · rw [if_neg h159] at e
            refine mm_T.seg (f' := (36, [some (.ref 62), some (.int y1), none], [(.int 6), (.int (I 62 23))])) (h' := (107, I, J, mm_rf rv sp rr w nw)) 3 rfl ?_
            refine mm_T.br (c := 6 < (I 62 23)) (a := ((39, [some (.ref 62), some (.int y1), none], []), (107, I, J, mm_rf rv sp rr w nw))) (b := ((44, [some (.ref 62), some (.int y1), none], []), (107, I, J, mm_rf rv sp rr w nw))) rfl (fun h166 => ?_) (fun h166 => ?_)
            · rw [if_pos h166] at e
              refine mm_T.seg (f' := (41, [some (.ref 62), some (.int y1), none], [(.int 2), (.ref 62)])) (h' := (107, I, J, mm_rf rv sp rr w nw)) 2 rfl ?_
              refine mm_T.call (t := 215) (as := [(.ref 62), (.int 2)]) (f' := (44, [some (.ref 62), some (.int y1), none], [])) rfl (tX12_wrong (d + 2) 2 I J rv sp rr w nw _ rfl) (fun v h hq => ?_)
              obtain ⟨rfl, rfl⟩ := hq
              refine mm_T.seg (f' := (47, [some (.ref 62), some (.int y1), none], [(.int 21), (.ref 62)])) (h' := (107, (fX12_wrong 2 I), J, mm_rf rv sp rr w nw)) 2 rfl ?_
              obtain ⟨o167, eo167, e⟩ := mm_bind e
              refine mm_T.call (t := 231) (as := [(.ref 62), (.int 21)]) (f' := (50, [some (.ref 62), some (.int y1), none], [])) rfl (tX12_openUp (d + 0) n 21 (fX12_wrong 2 I) J rv sp rr w nw o167 eo167) (fun v h hq => ?_)
              obtain ⟨rfl, rfl⟩ := hq
              refine mm_T.seg (f' := (2, [some (.ref 62), some (.int y1), none], [])) (h' := (107, o167.1, o167.2, mm_rf rv sp rr w nw)) 1 rfl ?_
              refine mm_T.mask [true, true, false] ?_
              exact ih y1 o167.1 o167.2 rv sp rr w nw out e k
            · rw [if_neg h166] at e
              refine mm_T.seg (f' := (47, [some (.ref 62), some (.int y1), none], [(.int 21), (.ref 62)])) (h' := (107, I, J, mm_rf rv sp rr w nw)) 2 rfl ?_
              obtain ⟨o168, eo168, e⟩ := mm_bind e
              refine mm_T.call (t := 231) (as := [(.ref 62), (.int 21)]) (f' := (50, [some (.ref 62), some (.int y1), none], [])) rfl (tX12_openUp (d + 0) n 21 I J rv sp rr w nw o168 eo168) (fun v h hq => ?_)
              obtain ⟨rfl, rfl⟩ := hq
              refine mm_T.seg (f' := (2, [some (.ref 62), some (.int y1), none], [])) (h' := (107, o168.1, o168.2, mm_rf rv sp rr w nw)) 1 rfl ?_
              refine mm_T.mask [true, true, false] ?_
              exact ih y1 o168.1 o168.2 rv sp rr w nw out e k
      · rw [if_neg h150] at e
        cases e
        refine mm_T.mask [true, false, false] ?_
        exact k
set_option maxRecDepth 100000 in
set_option maxHeartbeats 4000000 in
theorem tbX12_unit_J160 (d n : Nat) (y2 : Int32) (u0 : Int32) (I : Nat → Nat → Int32) (J : Nat → Nat → Int64) (rv sp rr w nw : Nat) (out : (Nat → Nat → Int32) × (Nat → Nat → Int64)) (e : fX12_unit_J160 n y2 u0 I J = some out) : mm_T none (d + 3) 232 (160, [some (.ref 62), none, some (.int y2)], [(.int u0), (.ref 62)]) (107, I, J, mm_rf rv sp rr w nw) (fun v h => v = none ∧ h = (107, out.1, out.2, mm_rf rv sp rr w nw)) := by
  unfold fX12_unit_J160 at e
  refine mm_T.seg (f' := (161, [some (.ref 62), none, some (.int y2)], [(.int y2), (.int u0), (.ref 62)])) (h' := (107, I, J, mm_rf rv sp rr w nw)) 1 rfl ?_
  refine mm_T.br (c := y2 < 0) (a := ((164, [some (.ref 62), none, some (.int y2)], [(.int u0), (.ref 62)]), (107, I, J, mm_rf rv sp rr w nw))) (b := ((171, [some (.ref 62), none, some (.int y2)], [(.int u0), (.ref 62)]), (107, I, J, mm_rf rv sp rr w nw))) rfl (fun h175 => ?_) (fun h175 => ?_)
  · rw [if_pos h175] at e
    refine mm_T.seg (f' := (172, [some (.ref 62), none, some (.int y2)], [(.int (I 62 8)), (.int u0), (.ref 62)])) (h' := (107, I, J, mm_rf rv sp rr w nw)) 3 rfl ?_
    obtain ⟨o176, eo176, e⟩ := mm_bind e
    refine mm_T.call (t := 223) (as := [(.ref 62), (.int u0), (.int (I 62 8))]) (f' := (175, [some (.ref 62), none, some (.int y2)], [])) rfl (tX12_add (d + 2) u0 (I 62 8) I J rv sp rr w nw o176 eo176) (fun v h hq => ?_)
    obtain ⟨rfl, rfl⟩ := hq
    refine mm_T.seg (f' := (176, [some (.ref 62), none, some (.int y2)], [(.ref 62)])) (h' := (107, o176, J, mm_rf rv sp rr w nw)) 1 rfl ?_
    obtain ⟨o177, eo177, e⟩ := mm_bind e
    refine mm_T.call (t := 214) (as := [(.ref 62)]) (f' := (179, [some (.ref 62), none, some (.int y2)], [])) rfl (tX12_token (d + 1) n o176 J rv sp rr w nw o177 eo177) (fun v h hq => ?_)
    obtain ⟨rfl, rfl⟩ := hq
    cases e
    exact mm_T.ret rfl ⟨rfl, rfl⟩
  · rw [if_neg h175] at e
    refine mm_T.seg (f' := (172, [some (.ref 62), none, some (.int y2)], [(.int y2), (.int u0), (.ref 62)])) (h' := (107, I, J, mm_rf rv sp rr w nw)) 1 rfl ?_
    obtain ⟨o178, eo178, e⟩ := mm_bind e
    refine mm_T.call (t := 223) (as := [(.ref 62), (.int u0), (.int y2)]) (f' := (175, [some (.ref 62), none, some (.int y2)], [])) rfl (tX12_add (d + 2) u0 y2 I J rv sp rr w nw o178 eo178) (fun v h hq => ?_)
    obtain ⟨rfl, rfl⟩ := hq
    refine mm_T.seg (f' := (176, [some (.ref 62), none, some (.int y2)], [(.ref 62)])) (h' := (107, o178, J, mm_rf rv sp rr w nw)) 1 rfl ?_
    obtain ⟨o179, eo179, e⟩ := mm_bind e
    refine mm_T.call (t := 214) (as := [(.ref 62)]) (f' := (179, [some (.ref 62), none, some (.int y2)], [])) rfl (tX12_token (d + 1) n o178 J rv sp rr w nw o179 eo179) (fun v h hq => ?_)
    obtain ⟨rfl, rfl⟩ := hq
    cases e
    exact mm_T.ret rfl ⟨rfl, rfl⟩
set_option maxRecDepth 100000 in
set_option maxHeartbeats 4000000 in
theorem tbX12_unit_J138 (d n : Nat) (y2 : Int32) (I : Nat → Nat → Int32) (J : Nat → Nat → Int64) (rv sp rr w nw : Nat) (out : (Nat → Nat → Int32) × (Nat → Nat → Int64)) (e : fX12_unit_J138 n y2 I J = some out) : mm_T none (d + 3) 232 (138, [some (.ref 62), none, some (.int y2)], []) (107, I, J, mm_rf rv sp rr w nw) (fun v h => v = none ∧ h = (107, out.1, out.2, mm_rf rv sp rr w nw)) := by
  unfold fX12_unit_J138 at e
  refine mm_T.seg (f' := (142, [some (.ref 62), none, some (.int y2)], [(.int (I 62 2))])) (h' := (107, I, J, mm_rf rv sp rr w nw)) 2 rfl ?_
  refine mm_T.br (c := 0 < (I 62 2)) (a := ((145, [some (.ref 62), none, some (.int y2)], []), (107, I, J, mm_rf rv sp rr w nw))) (b := ((146, [some (.ref 62), none, some (.int y2)], []), (107, I, J, mm_rf rv sp rr w nw))) rfl (fun h173 => ?_) (fun h173 => ?_)
  · rw [if_pos h173] at e
    cases e
    exact mm_T.ret rfl ⟨rfl, rfl⟩
  · rw [if_neg h173] at e
    refine mm_T.seg (f' := (147, [some (.ref 62), none, some (.int y2)], [(.ref 62)])) (h' := (107, I, J, mm_rf rv sp rr w nw)) 1 rfl ?_
    refine mm_T.call (t := 230) (as := [(.ref 62)]) (f' := (150, [some (.ref 62), none, some (.int y2)], [])) rfl (tX12_countUnit (d + 2) I J rv sp rr w nw _ rfl) (fun v h hq => ?_)
    obtain ⟨rfl, rfl⟩ := hq
    refine mm_T.seg (f' := (152, [some (.ref 62), none, some (.int y2)], [(.int y2), (.ref 62)])) (h' := (107, (fX12_countUnit I), J, mm_rf rv sp rr w nw)) 2 rfl ?_
    refine mm_T.br (c := y2 < 0) (a := ((155, [some (.ref 62), none, some (.int y2)], [(.ref 62)]), (107, (fX12_countUnit I), J, mm_rf rv sp rr w nw))) (b := ((159, [some (.ref 62), none, some (.int y2)], [(.ref 62)]), (107, (fX12_countUnit I), J, mm_rf rv sp rr w nw))) rfl (fun h174 => ?_) (fun h174 => ?_)
    · rw [if_pos h174] at e
      refine mm_T.seg (f' := (160, [some (.ref 62), none, some (.int y2)], [(.int 0), (.ref 62)])) (h' := (107, (fX12_countUnit I), J, mm_rf rv sp rr w nw)) 2 rfl ?_
      refine mm_T.mask [true, false, true] ?_
      exact tbX12_unit_J160 d n y2 0 (fX12_countUnit I) J rv sp rr w nw out e
    · rw [if_neg h174] at e
      refine mm_T.seg (f' := (160, [some (.ref 62), none, some (.int y2)], [(.int 1), (.ref 62)])) (h' := (107, (fX12_countUnit I), J, mm_rf rv sp rr w nw)) 1 rfl ?_
      refine mm_T.mask [true, false, true] ?_
      exact tbX12_unit_J160 d n y2 1 (fX12_countUnit I) J rv sp rr w nw out e
set_option maxRecDepth 100000 in
set_option maxHeartbeats 4000000 in
theorem tbX12_unit_J133 (d n : Nat) (y2 : Int32) (I : Nat → Nat → Int32) (J : Nat → Nat → Int64) (rv sp rr w nw : Nat) (out : (Nat → Nat → Int32) × (Nat → Nat → Int64)) (e : fX12_unit_J133 n y2 I J = some out) : mm_T none (d + 3) 232 (133, [some (.ref 62), none, some (.int y2)], []) (107, I, J, mm_rf rv sp rr w nw) (fun v h => v = none ∧ h = (107, out.1, out.2, mm_rf rv sp rr w nw)) := by
  unfold fX12_unit_J133 at e
  refine mm_T.seg (f' := (135, [some (.ref 62), none, some (.int y2)], [(.int 2), (.ref 62)])) (h' := (107, I, J, mm_rf rv sp rr w nw)) 2 rfl ?_
  refine mm_T.call (t := 215) (as := [(.ref 62), (.int 2)]) (f' := (138, [some (.ref 62), none, some (.int y2)], [])) rfl (tX12_wrong (d + 2) 2 I J rv sp rr w nw _ rfl) (fun v h hq => ?_)
  obtain ⟨rfl, rfl⟩ := hq
  refine mm_T.mask [true, false, true] ?_
  exact tbX12_unit_J138 d n y2 (fX12_wrong 2 I) J rv sp rr w nw out e
set_option maxRecDepth 100000 in
set_option maxHeartbeats 4000000 in
theorem tbX12_unit_J126 (d n : Nat) (y2 : Int32) (I : Nat → Nat → Int32) (J : Nat → Nat → Int64) (rv sp rr w nw : Nat) (out : (Nat → Nat → Int32) × (Nat → Nat → Int64)) (e : fX12_unit_J126 n y2 I J = some out) : mm_T none (d + 3) 232 (126, [some (.ref 62), none, some (.int y2)], []) (107, I, J, mm_rf rv sp rr w nw) (fun v h => v = none ∧ h = (107, out.1, out.2, mm_rf rv sp rr w nw)) := by
  unfold fX12_unit_J126 at e
  refine mm_T.seg (f' := (127, [some (.ref 62), none, some (.int y2)], [(.ref 62)])) (h' := (107, I, J, mm_rf rv sp rr w nw)) 1 rfl ?_
  refine mm_T.call (t := 229) (as := [(.ref 62)]) (f' := (130, [some (.ref 62), none, some (.int y2)], [])) rfl (tX12_isFull (d + 2) I J rv sp rr w nw _ rfl) (fun v h hq => ?_)
  obtain ⟨rfl, rfl⟩ := hq
  refine mm_T.br (c := (fX12_isFull I) = 0) (a := ((138, [some (.ref 62), none, some (.int y2)], []), (107, I, J, mm_rf rv sp rr w nw))) (b := ((133, [some (.ref 62), none, some (.int y2)], []), (107, I, J, mm_rf rv sp rr w nw))) rfl (fun h172 => ?_) (fun h172 => ?_)
  · rw [if_pos h172] at e
    refine mm_T.mask [true, false, true] ?_
    exact tbX12_unit_J138 d n y2 I J rv sp rr w nw out e
  · rw [if_neg h172] at e
    refine mm_T.mask [true, false, true] ?_
    exact tbX12_unit_J133 d n y2 I J rv sp rr w nw out e
set_option maxRecDepth 100000 in
set_option maxHeartbeats 4000000 in
theorem tbX12_unit_J101 (d n : Nat) (I : Nat → Nat → Int32) (J : Nat → Nat → Int64) (rv sp rr w nw : Nat) (out : (Nat → Nat → Int32) × (Nat → Nat → Int64)) (e : fX12_unit_J101 n I J = some out) : mm_T none (d + 3) 232 (101, [some (.ref 62), none, none], []) (107, I, J, mm_rf rv sp rr w nw) (fun v h => v = none ∧ h = (107, out.1, out.2, mm_rf rv sp rr w nw)) := by
  unfold fX12_unit_J101 at e
  refine mm_T.seg (f' := (105, [some (.ref 62), none, none], [(.int (I 62 2))])) (h' := (107, I, J, mm_rf rv sp rr w nw)) 2 rfl ?_
  refine mm_T.br (c := 0 < (I 62 2)) (a := ((108, [some (.ref 62), none, none], []), (107, I, J, mm_rf rv sp rr w nw))) (b := ((109, [some (.ref 62), none, none], []), (107, I, J, mm_rf rv sp rr w nw))) rfl (fun h170 => ?_) (fun h170 => ?_)
  · rw [if_pos h170] at e
    cases e
    exact mm_T.ret rfl ⟨rfl, rfl⟩
  · rw [if_neg h170] at e
    refine mm_T.seg (f' := (110, [some (.ref 62), none, none], [(.ref 62)])) (h' := (107, I, J, mm_rf rv sp rr w nw)) 1 rfl ?_
    refine mm_T.call (t := 228) (as := [(.ref 62)]) (f' := (113, [some (.ref 62), none, none], [])) rfl (tX12_asked (d + 2) I J rv sp rr w nw _ rfl) (fun v h hq => ?_)
    obtain ⟨rfl, rfl⟩ := hq
    refine mm_T.seg (f' := (119, [some (.ref 62), none, some (.int (fX12_asked I J))], [(.int 2), (.int (I 62 6))])) (h' := (107, I, J, mm_rf rv sp rr w nw)) 4 rfl ?_
    refine mm_T.br (c := (I 62 6) = 2) (a := ((126, [some (.ref 62), none, some (.int (fX12_asked I J))], []), (107, I, J, mm_rf rv sp rr w nw))) (b := ((122, [some (.ref 62), none, some (.int (fX12_asked I J))], []), (107, I, J, mm_rf rv sp rr w nw))) rfl (fun h171 => ?_) (fun h171 => ?_)
    · rw [if_pos h171] at e
      refine mm_T.mask [true, false, true] ?_
      exact tbX12_unit_J126 d n (fX12_asked I J) I J rv sp rr w nw out e
    · rw [if_neg h171] at e
      refine mm_T.seg (f' := (123, [some (.ref 62), none, some (.int (fX12_asked I J))], [(.int (fX12_asked I J))])) (h' := (107, I, J, mm_rf rv sp rr w nw)) 1 rfl ?_
      refine mm_T.br (c := (fX12_asked I J) < 0) (a := ((133, [some (.ref 62), none, some (.int (fX12_asked I J))], []), (107, I, J, mm_rf rv sp rr w nw))) (b := ((126, [some (.ref 62), none, some (.int (fX12_asked I J))], []), (107, I, J, mm_rf rv sp rr w nw))) rfl (fun h180 => ?_) (fun h180 => ?_)
      · rw [if_pos h180] at e
        refine mm_T.mask [true, false, true] ?_
        exact tbX12_unit_J133 d n (fX12_asked I J) I J rv sp rr w nw out e
      · rw [if_neg h180] at e
        refine mm_T.mask [true, false, true] ?_
        exact tbX12_unit_J126 d n (fX12_asked I J) I J rv sp rr w nw out e
set_option maxRecDepth 100000 in
set_option maxHeartbeats 4000000 in
theorem tX12_unit (d n : Nat) (I : Nat → Nat → Int32) (J : Nat → Nat → Int64) (rv sp rr w nw : Nat) (out : (Nat → Nat → Int32) × (Nat → Nat → Int64)) (e : fX12_unit n I J = some out) : mm_T none (d + 3) 232 (mm_ent 232 [(.ref 62)]) (107, I, J, mm_rf rv sp rr w nw) (fun v h => v = none ∧ h = (107, out.1, out.2, mm_rf rv sp rr w nw)) := by
  unfold fX12_unit at e
  refine mm_T.seg (f' := (2, [some (.ref 62), some (.int 1), none], [])) (h' := (107, I, J, mm_rf rv sp rr w nw)) 2 rfl ?_
  refine mm_T.mask [true, true, false] ?_
  obtain ⟨o169, eo169, e⟩ := mm_bind e
  refine tlX12_unit_L2 d _ n 1 I J rv sp rr w nw o169 eo169 ?_
  refine mm_T.mask [true, false, false] ?_
  exact tbX12_unit_J101 d n o169.1 o169.2 rv sp rr w nw out e
def fX12_sign (I : Nat → Nat → Int32) (J : Nat → Nat → Int64) : Int32 := (if (fX12_isWord 6385252 I J) = 0 then (if (fX12_isWord 28530 I J) = 0 then (if (I 62 6) = 60 then (I 62 6) else (if (I 62 6) = 62 then (I 62 6) else (if (I 62 6) = 61 then (I 62 6) else (if (I 62 6) = 43 then (I 62 6) else (if (I 62 6) = 45 then (I 62 6) else (if (I 62 6) = 42 then (I 62 6) else (if (I 62 6) = 47 then (I 62 6) else (if (I 62 6) = 37 then (I 62 6) else 0)))))))) else 124) else 38)
set_option maxRecDepth 100000 in
set_option maxHeartbeats 4000000 in
theorem tX12_sign (d : Nat) (I : Nat → Nat → Int32) (J : Nat → Nat → Int64) (rv sp rr w nw : Nat) (out : Int32) (e : fX12_sign I J = out) : mm_T none (d + 1) 233 (mm_ent 233 [(.ref 62)]) (107, I, J, mm_rf rv sp rr w nw) (fun v h => v = some (.int out) ∧ h = (107, I, J, mm_rf rv sp rr w nw)) := by
  unfold fX12_sign at e
  refine mm_T.seg (f' := (4, [some (.ref 62)], [(.long 6385252), (.ref 62)])) (h' := (107, I, J, mm_rf rv sp rr w nw)) 2 rfl ?_
  refine mm_T.call (t := 216) (as := [(.ref 62), (.long 6385252)]) (f' := (7, [some (.ref 62)], [])) rfl (tX12_isWord (d + 0) 6385252 I J rv sp rr w nw _ rfl) (fun v h hq => ?_)
  obtain ⟨rfl, rfl⟩ := hq
  refine mm_T.br (c := (fX12_isWord 6385252 I J) = 0) (a := ((13, [some (.ref 62)], []), (107, I, J, mm_rf rv sp rr w nw))) (b := ((10, [some (.ref 62)], []), (107, I, J, mm_rf rv sp rr w nw))) rfl (fun h181 => ?_) (fun h181 => ?_)
  · rw [if_pos h181] at e
    refine mm_T.seg (f' := (17, [some (.ref 62)], [(.long 28530), (.ref 62)])) (h' := (107, I, J, mm_rf rv sp rr w nw)) 2 rfl ?_
    refine mm_T.call (t := 216) (as := [(.ref 62), (.long 28530)]) (f' := (20, [some (.ref 62)], [])) rfl (tX12_isWord (d + 0) 28530 I J rv sp rr w nw _ rfl) (fun v h hq => ?_)
    obtain ⟨rfl, rfl⟩ := hq
    refine mm_T.br (c := (fX12_isWord 28530 I J) = 0) (a := ((26, [some (.ref 62)], []), (107, I, J, mm_rf rv sp rr w nw))) (b := ((23, [some (.ref 62)], []), (107, I, J, mm_rf rv sp rr w nw))) rfl (fun h182 => ?_) (fun h182 => ?_)
    · rw [if_pos h182] at e
      refine mm_T.seg (f' := (32, [some (.ref 62)], [(.int 60), (.int (I 62 6))])) (h' := (107, I, J, mm_rf rv sp rr w nw)) 3 rfl ?_
      refine mm_T.br (c := (I 62 6) = 60) (a := ((98, [some (.ref 62)], []), (107, I, J, mm_rf rv sp rr w nw))) (b := ((35, [some (.ref 62)], []), (107, I, J, mm_rf rv sp rr w nw))) rfl (fun h183 => ?_) (fun h183 => ?_)
      · rw [if_pos h183] at e
        refine mm_T.seg (f' := (106, [some (.ref 62)], [(.int (I 62 6))])) (h' := (107, I, J, mm_rf rv sp rr w nw)) 3 rfl ?_
        cases e
        exact mm_T.ret rfl ⟨rfl, rfl⟩
      · rw [if_neg h183] at e
        refine mm_T.seg (f' := (41, [some (.ref 62)], [(.int 62), (.int (I 62 6))])) (h' := (107, I, J, mm_rf rv sp rr w nw)) 3 rfl ?_
        refine mm_T.br (c := (I 62 6) = 62) (a := ((98, [some (.ref 62)], []), (107, I, J, mm_rf rv sp rr w nw))) (b := ((44, [some (.ref 62)], []), (107, I, J, mm_rf rv sp rr w nw))) rfl (fun h184 => ?_) (fun h184 => ?_)
        · rw [if_pos h184] at e
          refine mm_T.seg (f' := (106, [some (.ref 62)], [(.int (I 62 6))])) (h' := (107, I, J, mm_rf rv sp rr w nw)) 3 rfl ?_
          cases e
          exact mm_T.ret rfl ⟨rfl, rfl⟩
        · rw [if_neg h184] at e
          refine mm_T.seg (f' := (50, [some (.ref 62)], [(.int 61), (.int (I 62 6))])) (h' := (107, I, J, mm_rf rv sp rr w nw)) 3 rfl ?_
          refine mm_T.br (c := (I 62 6) = 61) (a := ((98, [some (.ref 62)], []), (107, I, J, mm_rf rv sp rr w nw))) (b := ((53, [some (.ref 62)], []), (107, I, J, mm_rf rv sp rr w nw))) rfl (fun h185 => ?_) (fun h185 => ?_)
          · rw [if_pos h185] at e
            refine mm_T.seg (f' := (106, [some (.ref 62)], [(.int (I 62 6))])) (h' := (107, I, J, mm_rf rv sp rr w nw)) 3 rfl ?_
            cases e
            exact mm_T.ret rfl ⟨rfl, rfl⟩
          · rw [if_neg h185] at e
            refine mm_T.seg (f' := (59, [some (.ref 62)], [(.int 43), (.int (I 62 6))])) (h' := (107, I, J, mm_rf rv sp rr w nw)) 3 rfl ?_
            refine mm_T.br (c := (I 62 6) = 43) (a := ((98, [some (.ref 62)], []), (107, I, J, mm_rf rv sp rr w nw))) (b := ((62, [some (.ref 62)], []), (107, I, J, mm_rf rv sp rr w nw))) rfl (fun h186 => ?_) (fun h186 => ?_)
            · rw [if_pos h186] at e
              refine mm_T.seg (f' := (106, [some (.ref 62)], [(.int (I 62 6))])) (h' := (107, I, J, mm_rf rv sp rr w nw)) 3 rfl ?_
              cases e
              exact mm_T.ret rfl ⟨rfl, rfl⟩
            · rw [if_neg h186] at e
              refine mm_T.seg (f' := (68, [some (.ref 62)], [(.int 45), (.int (I 62 6))])) (h' := (107, I, J, mm_rf rv sp rr w nw)) 3 rfl ?_
              refine mm_T.br (c := (I 62 6) = 45) (a := ((98, [some (.ref 62)], []), (107, I, J, mm_rf rv sp rr w nw))) (b := ((71, [some (.ref 62)], []), (107, I, J, mm_rf rv sp rr w nw))) rfl (fun h187 => ?_) (fun h187 => ?_)
              · rw [if_pos h187] at e
                refine mm_T.seg (f' := (106, [some (.ref 62)], [(.int (I 62 6))])) (h' := (107, I, J, mm_rf rv sp rr w nw)) 3 rfl ?_
                cases e
                exact mm_T.ret rfl ⟨rfl, rfl⟩
              · rw [if_neg h187] at e
                refine mm_T.seg (f' := (77, [some (.ref 62)], [(.int 42), (.int (I 62 6))])) (h' := (107, I, J, mm_rf rv sp rr w nw)) 3 rfl ?_
                refine mm_T.br (c := (I 62 6) = 42) (a := ((98, [some (.ref 62)], []), (107, I, J, mm_rf rv sp rr w nw))) (b := ((80, [some (.ref 62)], []), (107, I, J, mm_rf rv sp rr w nw))) rfl (fun h188 => ?_) (fun h188 => ?_)
                · rw [if_pos h188] at e
                  refine mm_T.seg (f' := (106, [some (.ref 62)], [(.int (I 62 6))])) (h' := (107, I, J, mm_rf rv sp rr w nw)) 3 rfl ?_
                  cases e
                  exact mm_T.ret rfl ⟨rfl, rfl⟩
                · rw [if_neg h188] at e
                  refine mm_T.seg (f' := (86, [some (.ref 62)], [(.int 47), (.int (I 62 6))])) (h' := (107, I, J, mm_rf rv sp rr w nw)) 3 rfl ?_
                  refine mm_T.br (c := (I 62 6) = 47) (a := ((98, [some (.ref 62)], []), (107, I, J, mm_rf rv sp rr w nw))) (b := ((89, [some (.ref 62)], []), (107, I, J, mm_rf rv sp rr w nw))) rfl (fun h189 => ?_) (fun h189 => ?_)
                  · rw [if_pos h189] at e
                    refine mm_T.seg (f' := (106, [some (.ref 62)], [(.int (I 62 6))])) (h' := (107, I, J, mm_rf rv sp rr w nw)) 3 rfl ?_
                    cases e
                    exact mm_T.ret rfl ⟨rfl, rfl⟩
                  · rw [if_neg h189] at e
                    refine mm_T.seg (f' := (95, [some (.ref 62)], [(.int 37), (.int (I 62 6))])) (h' := (107, I, J, mm_rf rv sp rr w nw)) 3 rfl ?_
                    refine mm_T.br (c := (I 62 6) = 37) (a := ((98, [some (.ref 62)], []), (107, I, J, mm_rf rv sp rr w nw))) (b := ((105, [some (.ref 62)], []), (107, I, J, mm_rf rv sp rr w nw))) rfl (fun h190 => ?_) (fun h190 => ?_)
                    · rw [if_pos h190] at e
                      refine mm_T.seg (f' := (106, [some (.ref 62)], [(.int (I 62 6))])) (h' := (107, I, J, mm_rf rv sp rr w nw)) 3 rfl ?_
                      cases e
                      exact mm_T.ret rfl ⟨rfl, rfl⟩
                    · rw [if_neg h190] at e
                      refine mm_T.seg (f' := (106, [some (.ref 62)], [(.int 0)])) (h' := (107, I, J, mm_rf rv sp rr w nw)) 1 rfl ?_
                      cases e
                      exact mm_T.ret rfl ⟨rfl, rfl⟩
    · rw [if_neg h182] at e
      refine mm_T.seg (f' := (25, [some (.ref 62)], [(.int 124)])) (h' := (107, I, J, mm_rf rv sp rr w nw)) 1 rfl ?_
      cases e
      exact mm_T.ret rfl ⟨rfl, rfl⟩
  · rw [if_neg h181] at e
    refine mm_T.seg (f' := (12, [some (.ref 62)], [(.int 38)])) (h' := (107, I, J, mm_rf rv sp rr w nw)) 1 rfl ?_
    cases e
    exact mm_T.ret rfl ⟨rfl, rfl⟩
def fX12_hasBracket_L4 (n : Nat) (y1 : Int32) (y2 : Int32) (I : Nat → Nat → Int32) : Option (Int32) := match n with
  | 0 => none
  | n + 1 => (if y2 < (I 62 19) then (if y1 = 0 then (if y2 < 0 ∨ 160 ≤ y2.toNatClampNeg then none else (if (I 69 y2.toNatClampNeg) = 20 then fX12_hasBracket_L4 n 1 (y2 + 1) I else fX12_hasBracket_L4 n 0 (y2 + 1) I)) else fX12_hasBracket_L4 n 1 (y2 + 1) I) else some y1)
def fX12_hasBracket (n : Nat) (I : Nat → Nat → Int32) : Option (Int32) := (fX12_hasBracket_L4 n 0 0 I).bind fun o195 => (if o195 = 0 ∨ o195 = 1 then some o195 else none)
set_option maxRecDepth 100000 in
set_option maxHeartbeats 4000000 in
theorem tlX12_hasBracket_L4 (d : Nat) (Q : Option Value → mm_H → Prop) : ∀ (n : Nat) (y1 : Int32) (y2 : Int32) (I : Nat → Nat → Int32) (J : Nat → Nat → Int64) (rv sp rr w nw : Nat), ∀ (out : Int32), fX12_hasBracket_L4 n y1 y2 I = some out → mm_T none (d + 0) 234 (39, [none, some (.int out), none], []) (107, I, J, mm_rf rv sp rr w nw) Q → mm_T none (d + 0) 234 (4, [some (.ref 62), some (.int y1), some (.int y2)], []) (107, I, J, mm_rf rv sp rr w nw) Q := by
  intro n
  induction n with
  | zero =>
    intro y1 y2 I J rv sp rr w nw out e k
    rw [fX12_hasBracket_L4] at e; cases e
  | succ n ih =>
    intro y1 y2 I J rv sp rr w nw out e k
    rw [fX12_hasBracket_L4] at e
    refine mm_T.seg (f' := (9, [some (.ref 62), some (.int y1), some (.int y2)], [(.int (I 62 19)), (.int y2)])) (h' := (107, I, J, mm_rf rv sp rr w nw)) 3 rfl ?_
    refine mm_T.br (c := y2 < (I 62 19)) (a := ((12, [some (.ref 62), some (.int y1), some (.int y2)], []), (107, I, J, mm_rf rv sp rr w nw))) (b := ((39, [some (.ref 62), some (.int y1), some (.int y2)], []), (107, I, J, mm_rf rv sp rr w nw))) rfl (fun h191 => ?_) (fun h191 => ?_)
    · rw [if_pos h191] at e
      refine mm_T.seg (f' := (13, [some (.ref 62), some (.int y1), some (.int y2)], [(.int y1)])) (h' := (107, I, J, mm_rf rv sp rr w nw)) 1 rfl ?_
      refine mm_T.br (c := y1 = 0) (a := ((16, [some (.ref 62), some (.int y1), some (.int y2)], []), (107, I, J, mm_rf rv sp rr w nw))) (b := ((27, [some (.ref 62), some (.int y1), some (.int y2)], []), (107, I, J, mm_rf rv sp rr w nw))) rfl (fun h192 => ?_) (fun h192 => ?_)
      · rw [if_pos h192] at e
        refine mm_T.seg (f' := (21, [some (.ref 62), some (.int y1), some (.int y2)], [(.int y2), (.ref 69)])) (h' := (107, I, J, mm_rf rv sp rr w nw)) 3 rfl ?_
        by_cases h193 : y2 < 0 ∨ 160 ≤ y2.toNatClampNeg
        · rw [if_pos h193] at e; cases e
        rw [if_neg h193] at e
        refine mm_T.guard (y := ((22, [some (.ref 62), some (.int y1), some (.int y2)], [(.int (I 69 y2.toNatClampNeg))]), (107, I, J, mm_rf rv sp rr w nw))) rfl h193 ?_
        refine mm_T.seg (f' := (24, [some (.ref 62), some (.int y1), some (.int y2)], [(.int 20), (.int (I 69 y2.toNatClampNeg))])) (h' := (107, I, J, mm_rf rv sp rr w nw)) 1 rfl ?_
        refine mm_T.br (c := (I 69 y2.toNatClampNeg) = 20) (a := ((27, [some (.ref 62), some (.int y1), some (.int y2)], []), (107, I, J, mm_rf rv sp rr w nw))) (b := ((31, [some (.ref 62), some (.int y1), some (.int y2)], []), (107, I, J, mm_rf rv sp rr w nw))) rfl (fun h194 => ?_) (fun h194 => ?_)
        · rw [if_pos h194] at e
          refine mm_T.seg (f' := (4, [some (.ref 62), some (.int 1), some (.int (y2 + 1))], [])) (h' := (107, I, J, mm_rf rv sp rr w nw)) 5 rfl ?_
          refine mm_T.mask [true, true, true] ?_
          exact ih 1 (y2 + 1) I J rv sp rr w nw out e k
        · rw [if_neg h194] at e
          refine mm_T.seg (f' := (4, [some (.ref 62), some (.int 0), some (.int (y2 + 1))], [])) (h' := (107, I, J, mm_rf rv sp rr w nw)) 4 rfl ?_
          refine mm_T.mask [true, true, true] ?_
          exact ih 0 (y2 + 1) I J rv sp rr w nw out e k
      · rw [if_neg h192] at e
        refine mm_T.seg (f' := (4, [some (.ref 62), some (.int 1), some (.int (y2 + 1))], [])) (h' := (107, I, J, mm_rf rv sp rr w nw)) 5 rfl ?_
        refine mm_T.mask [true, true, true] ?_
        exact ih 1 (y2 + 1) I J rv sp rr w nw out e k
    · rw [if_neg h191] at e
      cases e
      refine mm_T.mask [false, true, false] ?_
      exact k
set_option maxRecDepth 100000 in
set_option maxHeartbeats 4000000 in
theorem tX12_hasBracket (d n : Nat) (I : Nat → Nat → Int32) (J : Nat → Nat → Int64) (rv sp rr w nw : Nat) (out : Int32) (e : fX12_hasBracket n I = some out) : mm_T none (d + 0) 234 (mm_ent 234 [(.ref 62)]) (107, I, J, mm_rf rv sp rr w nw) (fun v h => v = some (.int out) ∧ h = (107, I, J, mm_rf rv sp rr w nw)) := by
  unfold fX12_hasBracket at e
  refine mm_T.seg (f' := (4, [some (.ref 62), some (.int 0), some (.int 0)], [])) (h' := (107, I, J, mm_rf rv sp rr w nw)) 4 rfl ?_
  refine mm_T.mask [true, true, true] ?_
  obtain ⟨o195, eo195, e⟩ := mm_bind e
  refine tlX12_hasBracket_L4 d _ n 0 0 I J rv sp rr w nw o195 eo195 ?_
  refine mm_T.seg (f' := (40, [none, some (.int o195), none], [(.int o195)])) (h' := (107, I, J, mm_rf rv sp rr w nw)) 1 rfl ?_
  by_cases h196 : o195 = 0 ∨ o195 = 1
  case neg => rw [if_neg h196] at e; cases e
  rw [if_pos h196] at e
  cases e
  exact mm_T.retZ (v := some (.int o195)) rfl h196 ⟨rfl, rfl⟩
def fX12_formula_L35 (n : Nat) (y1 : Int32) (I : Nat → Nat → Int32) (J : Nat → Nat → Int64) : Option ((Nat → Nat → Int32) × (Nat → Nat → Int64)) := match n with
  | 0 => none
  | n + 1 => (if y1 = 0 then some (I, J) else (if (I 62 2) = 0 then (if (I 62 6) = 41 then (fX12_hasBracket n I).bind fun o202 => (if o202 = 0 then (if (fX12_sign I J) = 0 then fX12_formula_L35 n 0 I J else (if (fX12_tight (fX12_sign I J)) = 4 then (fX12_hasRelation n I).bind fun o206 => (if o206 = 0 then (fX12_close n (fX12_tight (fX12_sign I J)) I).bind fun o208 => (if (o208 62 19) < 0 ∨ 160 ≤ (o208 62 19).toNatClampNeg then none else (fX12_token n (mm_up (mm_up o208 69 (o208 62 19).toNatClampNeg (fX12_sign I J)) 62 19 ((o208 62 19) + 1)) J).bind fun o210 => (fX12_unit n o210.1 o210.2).bind fun o211 => fX12_formula_L35 n y1 o211.1 o211.2) else fX12_formula_L35 n 0 I J) else (fX12_close n (fX12_tight (fX12_sign I J)) I).bind fun o212 => (if (o212 62 19) < 0 ∨ 160 ≤ (o212 62 19).toNatClampNeg then none else (fX12_token n (mm_up (mm_up o212 69 (o212 62 19).toNatClampNeg (fX12_sign I J)) 62 19 ((o212 62 19) + 1)) J).bind fun o214 => (fX12_unit n o214.1 o214.2).bind fun o215 => fX12_formula_L35 n y1 o215.1 o215.2))) else (fX12_close n 0 I).bind fun o216 => (fX12_token n (mm_up (mm_up o216 62 19 ((o216 62 19) - 1)) 62 23 ((o216 62 23) - 1)) J).bind fun o217 => fX12_formula_L35 n y1 o217.1 o217.2) else (if (fX12_sign I J) = 0 then fX12_formula_L35 n 0 I J else (if (fX12_tight (fX12_sign I J)) = 4 then (fX12_hasRelation n I).bind fun o220 => (if o220 = 0 then (fX12_close n (fX12_tight (fX12_sign I J)) I).bind fun o222 => (if (o222 62 19) < 0 ∨ 160 ≤ (o222 62 19).toNatClampNeg then none else (fX12_token n (mm_up (mm_up o222 69 (o222 62 19).toNatClampNeg (fX12_sign I J)) 62 19 ((o222 62 19) + 1)) J).bind fun o224 => (fX12_unit n o224.1 o224.2).bind fun o225 => fX12_formula_L35 n y1 o225.1 o225.2) else fX12_formula_L35 n 0 I J) else (fX12_close n (fX12_tight (fX12_sign I J)) I).bind fun o226 => (if (o226 62 19) < 0 ∨ 160 ≤ (o226 62 19).toNatClampNeg then none else (fX12_token n (mm_up (mm_up o226 69 (o226 62 19).toNatClampNeg (fX12_sign I J)) 62 19 ((o226 62 19) + 1)) J).bind fun o228 => (fX12_unit n o228.1 o228.2).bind fun o229 => fX12_formula_L35 n y1 o229.1 o229.2)))) else some (I, J)))
def fX12_formula_J181 (n : Nat) (I : Nat → Nat → Int32) (J : Nat → Nat → Int64) : Option ((Nat → Nat → Int32) × (Nat → Nat → Int64)) := (if (I 62 2) = 0 then (fX12_close n 0 I).bind fun o235 => some (o235, J) else some (I, J))
def fX12_formula_J162 (n : Nat) (I : Nat → Nat → Int32) (J : Nat → Nat → Int64) : Option ((Nat → Nat → Int32) × (Nat → Nat → Int64)) := (if (I 62 2) = 0 then (fX12_hasBracket n I).bind fun o232 => (if o232 = 0 then (fX12_formula_J181 n I J) else (fX12_formula_J181 n (fX12_wrong 2 I) J)) else (fX12_formula_J181 n I J))
def fX12_formula (n : Nat) (I : Nat → Nat → Int32) (J : Nat → Nat → Int64) : Option ((Nat → Nat → Int32) × (Nat → Nat → Int64)) := (fX12_token n I J).bind fun o197 => (fX12_unit n (mm_up (mm_up (mm_up (mm_up (mm_up o197.1 62 24 1) 62 17 0) 62 19 0) 62 23 0) 62 22 0) o197.2).bind fun o198 => (fX12_formula_L35 n 1 o198.1 o198.2).bind fun o230 => (fX12_formula_J162 n o230.1 o230.2)
set_option maxRecDepth 100000 in
set_option maxHeartbeats 4000000 in
theorem tlX12_formula_L35 (d : Nat) (Q : Option Value → mm_H → Prop) : ∀ (n : Nat) (y1 : Int32) (I : Nat → Nat → Int32) (J : Nat → Nat → Int64) (rv sp rr w nw : Nat), ∀ (out : (Nat → Nat → Int32) × (Nat → Nat → Int64)), fX12_formula_L35 n y1 I J = some out → mm_T none (d + 4) 235 (162, [some (.ref 62), none, none], []) (107, out.1, out.2, mm_rf rv sp rr w nw) Q → mm_T none (d + 4) 235 (35, [some (.ref 62), some (.int y1), none], []) (107, I, J, mm_rf rv sp rr w nw) Q := by
  intro n
  induction n with
  | zero =>
    intro y1 I J rv sp rr w nw out e k
    rw [fX12_formula_L35] at e; cases e
  | succ n ih =>
    intro y1 I J rv sp rr w nw out e k
    rw [fX12_formula_L35] at e
    refine mm_T.seg (f' := (36, [some (.ref 62), some (.int y1), none], [(.int y1)])) (h' := (107, I, J, mm_rf rv sp rr w nw)) 1 rfl ?_
    refine mm_T.br (c := y1 = 0) (a := ((162, [some (.ref 62), some (.int y1), none], []), (107, I, J, mm_rf rv sp rr w nw))) (b := ((39, [some (.ref 62), some (.int y1), none], []), (107, I, J, mm_rf rv sp rr w nw))) rfl (fun h199 => ?_) (fun h199 => ?_)
    · rw [if_pos h199] at e
      cases e
      refine mm_T.mask [true, false, false] ?_
      exact k
    · rw [if_neg h199] at e
      refine mm_T.seg (f' := (43, [some (.ref 62), some (.int y1), none], [(.int (I 62 2))])) (h' := (107, I, J, mm_rf rv sp rr w nw)) 2 rfl ?_
      refine mm_T.br (c := (I 62 2) = 0) (a := ((46, [some (.ref 62), some (.int y1), none], []), (107, I, J, mm_rf rv sp rr w nw))) (b := ((162, [some (.ref 62), some (.int y1), none], []), (107, I, J, mm_rf rv sp rr w nw))) rfl (fun h200 => ?_) (fun h200 => ?_)
      · rw [if_pos h200] at e
        refine mm_T.seg (f' := (47, [some (.ref 62), some (.int y1), none], [(.ref 62)])) (h' := (107, I, J, mm_rf rv sp rr w nw)) 1 rfl ?_
        refine mm_T.call (t := 233) (as := [(.ref 62)]) (f' := (50, [some (.ref 62), some (.int y1), none], [])) rfl (tX12_sign (d + 2) I J rv sp rr w nw _ rfl) (fun v h hq => ?_)
        obtain ⟨rfl, rfl⟩ := hq
        refine mm_T.seg (f' := (57, [some (.ref 62), some (.int y1), some (.int (fX12_sign I J))], [(.int 41), (.int (I 62 6))])) (h' := (107, I, J, mm_rf rv sp rr w nw)) 4 rfl ?_
        refine mm_T.br (c := (I 62 6) = 41) (a := ((60, [some (.ref 62), some (.int y1), some (.int (fX12_sign I J))], []), (107, I, J, mm_rf rv sp rr w nw))) (b := ((99, [some (.ref 62), some (.int y1), some (.int (fX12_sign I J))], []), (107, I, J, mm_rf rv sp rr w nw))) rfl (fun h201 => ?_) (fun h201 => ?_)
        · rw [if_pos h201] at e
          refine mm_T.seg (f' := (61, [some (.ref 62), some (.int y1), some (.int (fX12_sign I J))], [(.ref 62)])) (h' := (107, I, J, mm_rf rv sp rr w nw)) 1 rfl ?_
          obtain ⟨o202, eo202, e⟩ := mm_bind e
          refine mm_T.call (t := 234) (as := [(.ref 62)]) (f' := (64, [some (.ref 62), some (.int y1), some (.int (fX12_sign I J))], [])) rfl (tX12_hasBracket (d + 3) n I J rv sp rr w nw o202 eo202) (fun v h hq => ?_)
          obtain ⟨rfl, rfl⟩ := hq
          refine mm_T.br (c := o202 = 0) (a := ((99, [some (.ref 62), some (.int y1), some (.int (fX12_sign I J))], []), (107, I, J, mm_rf rv sp rr w nw))) (b := ((67, [some (.ref 62), some (.int y1), some (.int (fX12_sign I J))], []), (107, I, J, mm_rf rv sp rr w nw))) rfl (fun h203 => ?_) (fun h203 => ?_)
          · rw [if_pos h203] at e
            refine mm_T.seg (f' := (100, [some (.ref 62), some (.int y1), some (.int (fX12_sign I J))], [(.int (fX12_sign I J))])) (h' := (107, I, J, mm_rf rv sp rr w nw)) 1 rfl ?_
            refine mm_T.br (c := (fX12_sign I J) = 0) (a := ((157, [some (.ref 62), some (.int y1), some (.int (fX12_sign I J))], []), (107, I, J, mm_rf rv sp rr w nw))) (b := ((103, [some (.ref 62), some (.int y1), some (.int (fX12_sign I J))], []), (107, I, J, mm_rf rv sp rr w nw))) rfl (fun h204 => ?_) (fun h204 => ?_)
            · rw [if_pos h204] at e
              refine mm_T.seg (f' := (35, [some (.ref 62), some (.int 0), some (.int (fX12_sign I J))], [])) (h' := (107, I, J, mm_rf rv sp rr w nw)) 3 rfl ?_
              refine mm_T.mask [true, true, false] ?_
              exact ih 0 I J rv sp rr w nw out e k
            · rw [if_neg h204] at e
              refine mm_T.seg (f' := (104, [some (.ref 62), some (.int y1), some (.int (fX12_sign I J))], [(.int (fX12_sign I J))])) (h' := (107, I, J, mm_rf rv sp rr w nw)) 1 rfl ?_
              refine mm_T.call (t := 224) (as := [(.int (fX12_sign I J))]) (f' := (107, [some (.ref 62), some (.int y1), some (.int (fX12_sign I J))], [])) rfl (tX12_tight (d + 3) (fX12_sign I J) I J rv sp rr w nw _ rfl) (fun v h hq => ?_)
              obtain ⟨rfl, rfl⟩ := hq
              refine mm_T.seg (f' := (108, [some (.ref 62), some (.int y1), some (.int (fX12_sign I J))], [(.int 4), (.int (fX12_tight (fX12_sign I J)))])) (h' := (107, I, J, mm_rf rv sp rr w nw)) 1 rfl ?_
              refine mm_T.br (c := (fX12_tight (fX12_sign I J)) = 4) (a := ((111, [some (.ref 62), some (.int y1), some (.int (fX12_sign I J))], []), (107, I, J, mm_rf rv sp rr w nw))) (b := ((118, [some (.ref 62), some (.int y1), some (.int (fX12_sign I J))], []), (107, I, J, mm_rf rv sp rr w nw))) rfl (fun h205 => ?_) (fun h205 => ?_)
              · rw [if_pos h205] at e
                refine mm_T.seg (f' := (112, [some (.ref 62), some (.int y1), some (.int (fX12_sign I J))], [(.ref 62)])) (h' := (107, I, J, mm_rf rv sp rr w nw)) 1 rfl ?_
                obtain ⟨o206, eo206, e⟩ := mm_bind e
                refine mm_T.call (t := 226) (as := [(.ref 62)]) (f' := (115, [some (.ref 62), some (.int y1), some (.int (fX12_sign I J))], [])) rfl (tX12_hasRelation (d + 2) n I J rv sp rr w nw o206 eo206) (fun v h hq => ?_)
                obtain ⟨rfl, rfl⟩ := hq
                refine mm_T.br (c := o206 = 0) (a := ((118, [some (.ref 62), some (.int y1), some (.int (fX12_sign I J))], []), (107, I, J, mm_rf rv sp rr w nw))) (b := ((157, [some (.ref 62), some (.int y1), some (.int (fX12_sign I J))], []), (107, I, J, mm_rf rv sp rr w nw))) rfl (fun h207 => ?_) (fun h207 => ?_)
                · rw [if_pos h207] at e
                  refine mm_T.seg (f' := (120, [some (.ref 62), some (.int y1), some (.int (fX12_sign I J))], [(.int (fX12_sign I J)), (.ref 62)])) (h' := (107, I, J, mm_rf rv sp rr w nw)) 2 rfl ?_
                  refine mm_T.call (t := 224) (as := [(.int (fX12_sign I J))]) (f' := (123, [some (.ref 62), some (.int y1), some (.int (fX12_sign I J))], [(.ref 62)])) rfl (tX12_tight (d + 3) (fX12_sign I J) I J rv sp rr w nw _ rfl) (fun v h hq => ?_)
                  obtain ⟨rfl, rfl⟩ := hq
                  obtain ⟨o208, eo208, e⟩ := mm_bind e
                  refine mm_T.call (t := 225) (as := [(.ref 62), (.int (fX12_tight (fX12_sign I J)))]) (f' := (126, [some (.ref 62), some (.int y1), some (.int (fX12_sign I J))], [])) rfl (tX12_close (d + 2) n (fX12_tight (fX12_sign I J)) I J rv sp rr w nw o208 eo208) (fun v h hq => ?_)
                  obtain ⟨rfl, rfl⟩ := hq
                  refine mm_T.seg (f' := (135, [some (.ref 62), some (.int y1), some (.int (fX12_sign I J))], [(.int (fX12_sign I J)), (.int (o208 62 19)), (.ref 69)])) (h' := (107, o208, J, mm_rf rv sp rr w nw)) 5 rfl ?_
                  by_cases h209 : (o208 62 19) < 0 ∨ 160 ≤ (o208 62 19).toNatClampNeg
                  · rw [if_pos h209] at e; cases e
                  rw [if_neg h209] at e
                  refine mm_T.guard (y := ((136, [some (.ref 62), some (.int y1), some (.int (fX12_sign I J))], []), (107, (mm_up o208 69 (o208 62 19).toNatClampNeg (fX12_sign I J)), J, mm_rf rv sp rr w nw))) rfl h209 ?_
                  refine mm_T.seg (f' := (147, [some (.ref 62), some (.int y1), some (.int (fX12_sign I J))], [(.ref 62)])) (h' := (107, (mm_up (mm_up o208 69 (o208 62 19).toNatClampNeg (fX12_sign I J)) 62 19 ((o208 62 19) + 1)), J, mm_rf rv sp rr w nw)) 7 rfl ?_
                  obtain ⟨o210, eo210, e⟩ := mm_bind e
                  refine mm_T.call (t := 214) (as := [(.ref 62)]) (f' := (150, [some (.ref 62), some (.int y1), some (.int (fX12_sign I J))], [])) rfl (tX12_token (d + 2) n (mm_up (mm_up o208 69 (o208 62 19).toNatClampNeg (fX12_sign I J)) 62 19 ((o208 62 19) + 1)) J rv sp rr w nw o210 eo210) (fun v h hq => ?_)
                  obtain ⟨rfl, rfl⟩ := hq
                  refine mm_T.seg (f' := (151, [some (.ref 62), some (.int y1), some (.int (fX12_sign I J))], [(.ref 62)])) (h' := (107, o210.1, o210.2, mm_rf rv sp rr w nw)) 1 rfl ?_
                  obtain ⟨o211, eo211, e⟩ := mm_bind e
                  refine mm_T.call (t := 232) (as := [(.ref 62)]) (f' := (154, [some (.ref 62), some (.int y1), some (.int (fX12_sign I J))], [])) rfl (tX12_unit (d + 0) n o210.1 o210.2 rv sp rr w nw o211 eo211) (fun v h hq => ?_)
                  obtain ⟨rfl, rfl⟩ := hq
                  refine mm_T.seg (f' := (35, [some (.ref 62), some (.int y1), some (.int (fX12_sign I J))], [])) (h' := (107, o211.1, o211.2, mm_rf rv sp rr w nw)) 2 rfl ?_
                  refine mm_T.mask [true, true, false] ?_
                  exact ih y1 o211.1 o211.2 rv sp rr w nw out e k
                · rw [if_neg h207] at e
                  refine mm_T.seg (f' := (35, [some (.ref 62), some (.int 0), some (.int (fX12_sign I J))], [])) (h' := (107, I, J, mm_rf rv sp rr w nw)) 3 rfl ?_
                  refine mm_T.mask [true, true, false] ?_
                  exact ih 0 I J rv sp rr w nw out e k
              · rw [if_neg h205] at e
                refine mm_T.seg (f' := (120, [some (.ref 62), some (.int y1), some (.int (fX12_sign I J))], [(.int (fX12_sign I J)), (.ref 62)])) (h' := (107, I, J, mm_rf rv sp rr w nw)) 2 rfl ?_
                refine mm_T.call (t := 224) (as := [(.int (fX12_sign I J))]) (f' := (123, [some (.ref 62), some (.int y1), some (.int (fX12_sign I J))], [(.ref 62)])) rfl (tX12_tight (d + 3) (fX12_sign I J) I J rv sp rr w nw _ rfl) (fun v h hq => ?_)
                obtain ⟨rfl, rfl⟩ := hq
                obtain ⟨o212, eo212, e⟩ := mm_bind e
                refine mm_T.call (t := 225) (as := [(.ref 62), (.int (fX12_tight (fX12_sign I J)))]) (f' := (126, [some (.ref 62), some (.int y1), some (.int (fX12_sign I J))], [])) rfl (tX12_close (d + 2) n (fX12_tight (fX12_sign I J)) I J rv sp rr w nw o212 eo212) (fun v h hq => ?_)
                obtain ⟨rfl, rfl⟩ := hq
                refine mm_T.seg (f' := (135, [some (.ref 62), some (.int y1), some (.int (fX12_sign I J))], [(.int (fX12_sign I J)), (.int (o212 62 19)), (.ref 69)])) (h' := (107, o212, J, mm_rf rv sp rr w nw)) 5 rfl ?_
                by_cases h213 : (o212 62 19) < 0 ∨ 160 ≤ (o212 62 19).toNatClampNeg
                · rw [if_pos h213] at e; cases e
                rw [if_neg h213] at e
                refine mm_T.guard (y := ((136, [some (.ref 62), some (.int y1), some (.int (fX12_sign I J))], []), (107, (mm_up o212 69 (o212 62 19).toNatClampNeg (fX12_sign I J)), J, mm_rf rv sp rr w nw))) rfl h213 ?_
                refine mm_T.seg (f' := (147, [some (.ref 62), some (.int y1), some (.int (fX12_sign I J))], [(.ref 62)])) (h' := (107, (mm_up (mm_up o212 69 (o212 62 19).toNatClampNeg (fX12_sign I J)) 62 19 ((o212 62 19) + 1)), J, mm_rf rv sp rr w nw)) 7 rfl ?_
                obtain ⟨o214, eo214, e⟩ := mm_bind e
                refine mm_T.call (t := 214) (as := [(.ref 62)]) (f' := (150, [some (.ref 62), some (.int y1), some (.int (fX12_sign I J))], [])) rfl (tX12_token (d + 2) n (mm_up (mm_up o212 69 (o212 62 19).toNatClampNeg (fX12_sign I J)) 62 19 ((o212 62 19) + 1)) J rv sp rr w nw o214 eo214) (fun v h hq => ?_)
                obtain ⟨rfl, rfl⟩ := hq
                refine mm_T.seg (f' := (151, [some (.ref 62), some (.int y1), some (.int (fX12_sign I J))], [(.ref 62)])) (h' := (107, o214.1, o214.2, mm_rf rv sp rr w nw)) 1 rfl ?_
                obtain ⟨o215, eo215, e⟩ := mm_bind e
                refine mm_T.call (t := 232) (as := [(.ref 62)]) (f' := (154, [some (.ref 62), some (.int y1), some (.int (fX12_sign I J))], [])) rfl (tX12_unit (d + 0) n o214.1 o214.2 rv sp rr w nw o215 eo215) (fun v h hq => ?_)
                obtain ⟨rfl, rfl⟩ := hq
                refine mm_T.seg (f' := (35, [some (.ref 62), some (.int y1), some (.int (fX12_sign I J))], [])) (h' := (107, o215.1, o215.2, mm_rf rv sp rr w nw)) 2 rfl ?_
                refine mm_T.mask [true, true, false] ?_
                exact ih y1 o215.1 o215.2 rv sp rr w nw out e k
          · rw [if_neg h203] at e
            refine mm_T.seg (f' := (69, [some (.ref 62), some (.int y1), some (.int (fX12_sign I J))], [(.int 0), (.ref 62)])) (h' := (107, I, J, mm_rf rv sp rr w nw)) 2 rfl ?_
            obtain ⟨o216, eo216, e⟩ := mm_bind e
            refine mm_T.call (t := 225) (as := [(.ref 62), (.int 0)]) (f' := (72, [some (.ref 62), some (.int y1), some (.int (fX12_sign I J))], [])) rfl (tX12_close (d + 2) n 0 I J rv sp rr w nw o216 eo216) (fun v h hq => ?_)
            obtain ⟨rfl, rfl⟩ := hq
            refine mm_T.seg (f' := (93, [some (.ref 62), some (.int y1), some (.int (fX12_sign I J))], [(.ref 62)])) (h' := (107, (mm_up (mm_up o216 62 19 ((o216 62 19) - 1)) 62 23 ((o216 62 23) - 1)), J, mm_rf rv sp rr w nw)) 13 rfl ?_
            obtain ⟨o217, eo217, e⟩ := mm_bind e
            refine mm_T.call (t := 214) (as := [(.ref 62)]) (f' := (96, [some (.ref 62), some (.int y1), some (.int (fX12_sign I J))], [])) rfl (tX12_token (d + 2) n (mm_up (mm_up o216 62 19 ((o216 62 19) - 1)) 62 23 ((o216 62 23) - 1)) J rv sp rr w nw o217 eo217) (fun v h hq => ?_)
            obtain ⟨rfl, rfl⟩ := hq
            refine mm_T.seg (f' := (35, [some (.ref 62), some (.int y1), some (.int (fX12_sign I J))], [])) (h' := (107, o217.1, o217.2, mm_rf rv sp rr w nw)) 2 rfl ?_
            refine mm_T.mask [true, true, false] ?_
            exact ih y1 o217.1 o217.2 rv sp rr w nw out e k
        · rw [if_neg h201] at e
          refine mm_T.seg (f' := (100, [some (.ref 62), some (.int y1), some (.int (fX12_sign I J))], [(.int (fX12_sign I J))])) (h' := (107, I, J, mm_rf rv sp rr w nw)) 1 rfl ?_
          refine mm_T.br (c := (fX12_sign I J) = 0) (a := ((157, [some (.ref 62), some (.int y1), some (.int (fX12_sign I J))], []), (107, I, J, mm_rf rv sp rr w nw))) (b := ((103, [some (.ref 62), some (.int y1), some (.int (fX12_sign I J))], []), (107, I, J, mm_rf rv sp rr w nw))) rfl (fun h218 => ?_) (fun h218 => ?_)
          · rw [if_pos h218] at e
            refine mm_T.seg (f' := (35, [some (.ref 62), some (.int 0), some (.int (fX12_sign I J))], [])) (h' := (107, I, J, mm_rf rv sp rr w nw)) 3 rfl ?_
            refine mm_T.mask [true, true, false] ?_
            exact ih 0 I J rv sp rr w nw out e k
          · rw [if_neg h218] at e
            refine mm_T.seg (f' := (104, [some (.ref 62), some (.int y1), some (.int (fX12_sign I J))], [(.int (fX12_sign I J))])) (h' := (107, I, J, mm_rf rv sp rr w nw)) 1 rfl ?_
            refine mm_T.call (t := 224) (as := [(.int (fX12_sign I J))]) (f' := (107, [some (.ref 62), some (.int y1), some (.int (fX12_sign I J))], [])) rfl (tX12_tight (d + 3) (fX12_sign I J) I J rv sp rr w nw _ rfl) (fun v h hq => ?_)
            obtain ⟨rfl, rfl⟩ := hq
            refine mm_T.seg (f' := (108, [some (.ref 62), some (.int y1), some (.int (fX12_sign I J))], [(.int 4), (.int (fX12_tight (fX12_sign I J)))])) (h' := (107, I, J, mm_rf rv sp rr w nw)) 1 rfl ?_
            refine mm_T.br (c := (fX12_tight (fX12_sign I J)) = 4) (a := ((111, [some (.ref 62), some (.int y1), some (.int (fX12_sign I J))], []), (107, I, J, mm_rf rv sp rr w nw))) (b := ((118, [some (.ref 62), some (.int y1), some (.int (fX12_sign I J))], []), (107, I, J, mm_rf rv sp rr w nw))) rfl (fun h219 => ?_) (fun h219 => ?_)
            · rw [if_pos h219] at e
              refine mm_T.seg (f' := (112, [some (.ref 62), some (.int y1), some (.int (fX12_sign I J))], [(.ref 62)])) (h' := (107, I, J, mm_rf rv sp rr w nw)) 1 rfl ?_
              obtain ⟨o220, eo220, e⟩ := mm_bind e
              refine mm_T.call (t := 226) (as := [(.ref 62)]) (f' := (115, [some (.ref 62), some (.int y1), some (.int (fX12_sign I J))], [])) rfl (tX12_hasRelation (d + 2) n I J rv sp rr w nw o220 eo220) (fun v h hq => ?_)
              obtain ⟨rfl, rfl⟩ := hq
              refine mm_T.br (c := o220 = 0) (a := ((118, [some (.ref 62), some (.int y1), some (.int (fX12_sign I J))], []), (107, I, J, mm_rf rv sp rr w nw))) (b := ((157, [some (.ref 62), some (.int y1), some (.int (fX12_sign I J))], []), (107, I, J, mm_rf rv sp rr w nw))) rfl (fun h221 => ?_) (fun h221 => ?_)
              · rw [if_pos h221] at e
                refine mm_T.seg (f' := (120, [some (.ref 62), some (.int y1), some (.int (fX12_sign I J))], [(.int (fX12_sign I J)), (.ref 62)])) (h' := (107, I, J, mm_rf rv sp rr w nw)) 2 rfl ?_
                refine mm_T.call (t := 224) (as := [(.int (fX12_sign I J))]) (f' := (123, [some (.ref 62), some (.int y1), some (.int (fX12_sign I J))], [(.ref 62)])) rfl (tX12_tight (d + 3) (fX12_sign I J) I J rv sp rr w nw _ rfl) (fun v h hq => ?_)
                obtain ⟨rfl, rfl⟩ := hq
                obtain ⟨o222, eo222, e⟩ := mm_bind e
                refine mm_T.call (t := 225) (as := [(.ref 62), (.int (fX12_tight (fX12_sign I J)))]) (f' := (126, [some (.ref 62), some (.int y1), some (.int (fX12_sign I J))], [])) rfl (tX12_close (d + 2) n (fX12_tight (fX12_sign I J)) I J rv sp rr w nw o222 eo222) (fun v h hq => ?_)
                obtain ⟨rfl, rfl⟩ := hq
                refine mm_T.seg (f' := (135, [some (.ref 62), some (.int y1), some (.int (fX12_sign I J))], [(.int (fX12_sign I J)), (.int (o222 62 19)), (.ref 69)])) (h' := (107, o222, J, mm_rf rv sp rr w nw)) 5 rfl ?_
                by_cases h223 : (o222 62 19) < 0 ∨ 160 ≤ (o222 62 19).toNatClampNeg
                · rw [if_pos h223] at e; cases e
                rw [if_neg h223] at e
                refine mm_T.guard (y := ((136, [some (.ref 62), some (.int y1), some (.int (fX12_sign I J))], []), (107, (mm_up o222 69 (o222 62 19).toNatClampNeg (fX12_sign I J)), J, mm_rf rv sp rr w nw))) rfl h223 ?_
                refine mm_T.seg (f' := (147, [some (.ref 62), some (.int y1), some (.int (fX12_sign I J))], [(.ref 62)])) (h' := (107, (mm_up (mm_up o222 69 (o222 62 19).toNatClampNeg (fX12_sign I J)) 62 19 ((o222 62 19) + 1)), J, mm_rf rv sp rr w nw)) 7 rfl ?_
                obtain ⟨o224, eo224, e⟩ := mm_bind e
                refine mm_T.call (t := 214) (as := [(.ref 62)]) (f' := (150, [some (.ref 62), some (.int y1), some (.int (fX12_sign I J))], [])) rfl (tX12_token (d + 2) n (mm_up (mm_up o222 69 (o222 62 19).toNatClampNeg (fX12_sign I J)) 62 19 ((o222 62 19) + 1)) J rv sp rr w nw o224 eo224) (fun v h hq => ?_)
                obtain ⟨rfl, rfl⟩ := hq
                refine mm_T.seg (f' := (151, [some (.ref 62), some (.int y1), some (.int (fX12_sign I J))], [(.ref 62)])) (h' := (107, o224.1, o224.2, mm_rf rv sp rr w nw)) 1 rfl ?_
                obtain ⟨o225, eo225, e⟩ := mm_bind e
                refine mm_T.call (t := 232) (as := [(.ref 62)]) (f' := (154, [some (.ref 62), some (.int y1), some (.int (fX12_sign I J))], [])) rfl (tX12_unit (d + 0) n o224.1 o224.2 rv sp rr w nw o225 eo225) (fun v h hq => ?_)
                obtain ⟨rfl, rfl⟩ := hq
                refine mm_T.seg (f' := (35, [some (.ref 62), some (.int y1), some (.int (fX12_sign I J))], [])) (h' := (107, o225.1, o225.2, mm_rf rv sp rr w nw)) 2 rfl ?_
                refine mm_T.mask [true, true, false] ?_
                exact ih y1 o225.1 o225.2 rv sp rr w nw out e k
              · rw [if_neg h221] at e
                refine mm_T.seg (f' := (35, [some (.ref 62), some (.int 0), some (.int (fX12_sign I J))], [])) (h' := (107, I, J, mm_rf rv sp rr w nw)) 3 rfl ?_
                refine mm_T.mask [true, true, false] ?_
                exact ih 0 I J rv sp rr w nw out e k
            · rw [if_neg h219] at e
              refine mm_T.seg (f' := (120, [some (.ref 62), some (.int y1), some (.int (fX12_sign I J))], [(.int (fX12_sign I J)), (.ref 62)])) (h' := (107, I, J, mm_rf rv sp rr w nw)) 2 rfl ?_
              refine mm_T.call (t := 224) (as := [(.int (fX12_sign I J))]) (f' := (123, [some (.ref 62), some (.int y1), some (.int (fX12_sign I J))], [(.ref 62)])) rfl (tX12_tight (d + 3) (fX12_sign I J) I J rv sp rr w nw _ rfl) (fun v h hq => ?_)
              obtain ⟨rfl, rfl⟩ := hq
              obtain ⟨o226, eo226, e⟩ := mm_bind e
              refine mm_T.call (t := 225) (as := [(.ref 62), (.int (fX12_tight (fX12_sign I J)))]) (f' := (126, [some (.ref 62), some (.int y1), some (.int (fX12_sign I J))], [])) rfl (tX12_close (d + 2) n (fX12_tight (fX12_sign I J)) I J rv sp rr w nw o226 eo226) (fun v h hq => ?_)
              obtain ⟨rfl, rfl⟩ := hq
              refine mm_T.seg (f' := (135, [some (.ref 62), some (.int y1), some (.int (fX12_sign I J))], [(.int (fX12_sign I J)), (.int (o226 62 19)), (.ref 69)])) (h' := (107, o226, J, mm_rf rv sp rr w nw)) 5 rfl ?_
              by_cases h227 : (o226 62 19) < 0 ∨ 160 ≤ (o226 62 19).toNatClampNeg
              · rw [if_pos h227] at e; cases e
              rw [if_neg h227] at e
              refine mm_T.guard (y := ((136, [some (.ref 62), some (.int y1), some (.int (fX12_sign I J))], []), (107, (mm_up o226 69 (o226 62 19).toNatClampNeg (fX12_sign I J)), J, mm_rf rv sp rr w nw))) rfl h227 ?_
              refine mm_T.seg (f' := (147, [some (.ref 62), some (.int y1), some (.int (fX12_sign I J))], [(.ref 62)])) (h' := (107, (mm_up (mm_up o226 69 (o226 62 19).toNatClampNeg (fX12_sign I J)) 62 19 ((o226 62 19) + 1)), J, mm_rf rv sp rr w nw)) 7 rfl ?_
              obtain ⟨o228, eo228, e⟩ := mm_bind e
              refine mm_T.call (t := 214) (as := [(.ref 62)]) (f' := (150, [some (.ref 62), some (.int y1), some (.int (fX12_sign I J))], [])) rfl (tX12_token (d + 2) n (mm_up (mm_up o226 69 (o226 62 19).toNatClampNeg (fX12_sign I J)) 62 19 ((o226 62 19) + 1)) J rv sp rr w nw o228 eo228) (fun v h hq => ?_)
              obtain ⟨rfl, rfl⟩ := hq
              refine mm_T.seg (f' := (151, [some (.ref 62), some (.int y1), some (.int (fX12_sign I J))], [(.ref 62)])) (h' := (107, o228.1, o228.2, mm_rf rv sp rr w nw)) 1 rfl ?_
              obtain ⟨o229, eo229, e⟩ := mm_bind e
              refine mm_T.call (t := 232) (as := [(.ref 62)]) (f' := (154, [some (.ref 62), some (.int y1), some (.int (fX12_sign I J))], [])) rfl (tX12_unit (d + 0) n o228.1 o228.2 rv sp rr w nw o229 eo229) (fun v h hq => ?_)
              obtain ⟨rfl, rfl⟩ := hq
              refine mm_T.seg (f' := (35, [some (.ref 62), some (.int y1), some (.int (fX12_sign I J))], [])) (h' := (107, o229.1, o229.2, mm_rf rv sp rr w nw)) 2 rfl ?_
              refine mm_T.mask [true, true, false] ?_
              exact ih y1 o229.1 o229.2 rv sp rr w nw out e k
      · rw [if_neg h200] at e
        cases e
        refine mm_T.mask [true, false, false] ?_
        exact k
set_option maxRecDepth 100000 in
set_option maxHeartbeats 4000000 in
theorem tbX12_formula_J181 (d n : Nat) (I : Nat → Nat → Int32) (J : Nat → Nat → Int64) (rv sp rr w nw : Nat) (out : (Nat → Nat → Int32) × (Nat → Nat → Int64)) (e : fX12_formula_J181 n I J = some out) : mm_T none (d + 4) 235 (181, [some (.ref 62), none, none], []) (107, I, J, mm_rf rv sp rr w nw) (fun v h => v = none ∧ h = (107, out.1, out.2, mm_rf rv sp rr w nw)) := by
  unfold fX12_formula_J181 at e
  refine mm_T.seg (f' := (185, [some (.ref 62), none, none], [(.int (I 62 2))])) (h' := (107, I, J, mm_rf rv sp rr w nw)) 2 rfl ?_
  refine mm_T.br (c := (I 62 2) = 0) (a := ((188, [some (.ref 62), none, none], []), (107, I, J, mm_rf rv sp rr w nw))) (b := ((193, [some (.ref 62), none, none], []), (107, I, J, mm_rf rv sp rr w nw))) rfl (fun h234 => ?_) (fun h234 => ?_)
  · rw [if_pos h234] at e
    refine mm_T.seg (f' := (190, [some (.ref 62), none, none], [(.int 0), (.ref 62)])) (h' := (107, I, J, mm_rf rv sp rr w nw)) 2 rfl ?_
    obtain ⟨o235, eo235, e⟩ := mm_bind e
    refine mm_T.call (t := 225) (as := [(.ref 62), (.int 0)]) (f' := (193, [some (.ref 62), none, none], [])) rfl (tX12_close (d + 2) n 0 I J rv sp rr w nw o235 eo235) (fun v h hq => ?_)
    obtain ⟨rfl, rfl⟩ := hq
    cases e
    exact mm_T.ret rfl ⟨rfl, rfl⟩
  · rw [if_neg h234] at e
    cases e
    exact mm_T.ret rfl ⟨rfl, rfl⟩
set_option maxRecDepth 100000 in
set_option maxHeartbeats 4000000 in
theorem tbX12_formula_J162 (d n : Nat) (I : Nat → Nat → Int32) (J : Nat → Nat → Int64) (rv sp rr w nw : Nat) (out : (Nat → Nat → Int32) × (Nat → Nat → Int64)) (e : fX12_formula_J162 n I J = some out) : mm_T none (d + 4) 235 (162, [some (.ref 62), none, none], []) (107, I, J, mm_rf rv sp rr w nw) (fun v h => v = none ∧ h = (107, out.1, out.2, mm_rf rv sp rr w nw)) := by
  unfold fX12_formula_J162 at e
  refine mm_T.seg (f' := (166, [some (.ref 62), none, none], [(.int (I 62 2))])) (h' := (107, I, J, mm_rf rv sp rr w nw)) 2 rfl ?_
  refine mm_T.br (c := (I 62 2) = 0) (a := ((169, [some (.ref 62), none, none], []), (107, I, J, mm_rf rv sp rr w nw))) (b := ((181, [some (.ref 62), none, none], []), (107, I, J, mm_rf rv sp rr w nw))) rfl (fun h231 => ?_) (fun h231 => ?_)
  · rw [if_pos h231] at e
    refine mm_T.seg (f' := (170, [some (.ref 62), none, none], [(.ref 62)])) (h' := (107, I, J, mm_rf rv sp rr w nw)) 1 rfl ?_
    obtain ⟨o232, eo232, e⟩ := mm_bind e
    refine mm_T.call (t := 234) (as := [(.ref 62)]) (f' := (173, [some (.ref 62), none, none], [])) rfl (tX12_hasBracket (d + 3) n I J rv sp rr w nw o232 eo232) (fun v h hq => ?_)
    obtain ⟨rfl, rfl⟩ := hq
    refine mm_T.br (c := o232 = 0) (a := ((181, [some (.ref 62), none, none], []), (107, I, J, mm_rf rv sp rr w nw))) (b := ((176, [some (.ref 62), none, none], []), (107, I, J, mm_rf rv sp rr w nw))) rfl (fun h233 => ?_) (fun h233 => ?_)
    · rw [if_pos h233] at e
      refine mm_T.mask [true, false, false] ?_
      exact tbX12_formula_J181 d n I J rv sp rr w nw out e
    · rw [if_neg h233] at e
      refine mm_T.seg (f' := (178, [some (.ref 62), none, none], [(.int 2), (.ref 62)])) (h' := (107, I, J, mm_rf rv sp rr w nw)) 2 rfl ?_
      refine mm_T.call (t := 215) (as := [(.ref 62), (.int 2)]) (f' := (181, [some (.ref 62), none, none], [])) rfl (tX12_wrong (d + 3) 2 I J rv sp rr w nw _ rfl) (fun v h hq => ?_)
      obtain ⟨rfl, rfl⟩ := hq
      refine mm_T.mask [true, false, false] ?_
      exact tbX12_formula_J181 d n (fX12_wrong 2 I) J rv sp rr w nw out e
  · rw [if_neg h231] at e
    refine mm_T.mask [true, false, false] ?_
    exact tbX12_formula_J181 d n I J rv sp rr w nw out e
set_option maxRecDepth 100000 in
set_option maxHeartbeats 4000000 in
theorem tX12_formula (d n : Nat) (I : Nat → Nat → Int32) (J : Nat → Nat → Int64) (rv sp rr w nw : Nat) (out : (Nat → Nat → Int32) × (Nat → Nat → Int64)) (e : fX12_formula n I J = some out) : mm_T none (d + 4) 235 (mm_ent 235 [(.ref 62)]) (107, I, J, mm_rf rv sp rr w nw) (fun v h => v = none ∧ h = (107, out.1, out.2, mm_rf rv sp rr w nw)) := by
  unfold fX12_formula at e
  refine mm_T.seg (f' := (1, [some (.ref 62), none, none], [(.ref 62)])) (h' := (107, I, J, mm_rf rv sp rr w nw)) 1 rfl ?_
  obtain ⟨o197, eo197, e⟩ := mm_bind e
  refine mm_T.call (t := 214) (as := [(.ref 62)]) (f' := (4, [some (.ref 62), none, none], [])) rfl (tX12_token (d + 2) n I J rv sp rr w nw o197 eo197) (fun v h hq => ?_)
  obtain ⟨rfl, rfl⟩ := hq
  refine mm_T.seg (f' := (30, [some (.ref 62), none, none], [(.ref 62)])) (h' := (107, (mm_up (mm_up (mm_up (mm_up (mm_up o197.1 62 24 1) 62 17 0) 62 19 0) 62 23 0) 62 22 0), o197.2, mm_rf rv sp rr w nw)) 16 rfl ?_
  obtain ⟨o198, eo198, e⟩ := mm_bind e
  refine mm_T.call (t := 232) (as := [(.ref 62)]) (f' := (33, [some (.ref 62), none, none], [])) rfl (tX12_unit (d + 0) n (mm_up (mm_up (mm_up (mm_up (mm_up o197.1 62 24 1) 62 17 0) 62 19 0) 62 23 0) 62 22 0) o197.2 rv sp rr w nw o198 eo198) (fun v h hq => ?_)
  obtain ⟨rfl, rfl⟩ := hq
  refine mm_T.seg (f' := (35, [some (.ref 62), some (.int 1), none], [])) (h' := (107, o198.1, o198.2, mm_rf rv sp rr w nw)) 2 rfl ?_
  refine mm_T.mask [true, true, false] ?_
  obtain ⟨o230, eo230, e⟩ := mm_bind e
  refine tlX12_formula_L35 d _ n 1 o198.1 o198.2 rv sp rr w nw o230 eo230 ?_
  refine mm_T.mask [true, false, false] ?_
  exact tbX12_formula_J162 d n o230.1 o230.2 rv sp rr w nw out e
def fX12_truth (x0 : Int32) : Int32 := (if x0 = 0 then 0 else 1)
set_option maxRecDepth 100000 in
set_option maxHeartbeats 4000000 in
theorem tX12_truth (d : Nat) (x0 : Int32) (I : Nat → Nat → Int32) (J : Nat → Nat → Int64) (rv sp rr w nw : Nat) (out : Int32) (e : fX12_truth x0 = out) : mm_T none (d + 0) 236 (mm_ent 236 [(.int x0)]) (107, I, J, mm_rf rv sp rr w nw) (fun v h => v = some (.int out) ∧ h = (107, I, J, mm_rf rv sp rr w nw)) := by
  unfold fX12_truth at e
  refine mm_T.seg (f' := (1, [some (.int x0)], [(.int x0)])) (h' := (107, I, J, mm_rf rv sp rr w nw)) 1 rfl ?_
  refine mm_T.br (c := x0 = 0) (a := ((8, [some (.int x0)], []), (107, I, J, mm_rf rv sp rr w nw))) (b := ((4, [some (.int x0)], []), (107, I, J, mm_rf rv sp rr w nw))) rfl (fun h236 => ?_) (fun h236 => ?_)
  · rw [if_pos h236] at e
    refine mm_T.seg (f' := (9, [some (.int x0)], [(.int 0)])) (h' := (107, I, J, mm_rf rv sp rr w nw)) 1 rfl ?_
    cases e
    exact mm_T.ret rfl ⟨rfl, rfl⟩
  · rw [if_neg h236] at e
    refine mm_T.seg (f' := (9, [some (.int x0)], [(.int 1)])) (h' := (107, I, J, mm_rf rv sp rr w nw)) 2 rfl ?_
    cases e
    exact mm_T.ret rfl ⟨rfl, rfl⟩
def fX12_done (x0 : Int32) (x1 : Int32) (x2 : Int32) : Option (Int32) := (if x0 = 37 then (if x2 = 0 then some 0 else (if x2 = 0 then none else some (x1 - x1 / x2 * x2))) else (if x0 = 38 then (if x1 = 0 then some (fX12_truth 0) else (if x2 = 0 then some (fX12_truth 0) else some (fX12_truth 1))) else (if x0 = 39 then (if x1 = 0 then (if x2 = 0 then some (fX12_truth 0) else some (fX12_truth 1)) else some (fX12_truth 1)) else (if x0 = 40 then (if x1 = 0 then (if x2 = 0 then some (fX12_truth 0) else some (fX12_truth 1)) else some (fX12_truth 1)) else (if x0 = 41 then (if x1 = 0 then (if x2 = 0 then some (fX12_truth 0) else some (fX12_truth 1)) else some (fX12_truth 1)) else (if x0 = 42 then some (x1 * x2) else (if x0 = 43 then some (x1 + x2) else (if x0 = 44 then (if x1 = 0 then (if x2 = 0 then some (fX12_truth 0) else some (fX12_truth 1)) else some (fX12_truth 1)) else (if x0 = 45 then some (x1 - x2) else (if x0 = 46 then (if x1 = 0 then (if x2 = 0 then some (fX12_truth 0) else some (fX12_truth 1)) else some (fX12_truth 1)) else (if x0 = 47 then (if x2 = 0 then some 0 else (if x2 = 0 then none else some (x1 / x2))) else (if x0 = 48 then (if x1 = 0 then (if x2 = 0 then some (fX12_truth 0) else some (fX12_truth 1)) else some (fX12_truth 1)) else (if x0 = 49 then (if x1 = 0 then (if x2 = 0 then some (fX12_truth 0) else some (fX12_truth 1)) else some (fX12_truth 1)) else (if x0 = 50 then (if x1 = 0 then (if x2 = 0 then some (fX12_truth 0) else some (fX12_truth 1)) else some (fX12_truth 1)) else (if x0 = 51 then (if x1 = 0 then (if x2 = 0 then some (fX12_truth 0) else some (fX12_truth 1)) else some (fX12_truth 1)) else (if x0 = 52 then (if x1 = 0 then (if x2 = 0 then some (fX12_truth 0) else some (fX12_truth 1)) else some (fX12_truth 1)) else (if x0 = 53 then (if x1 = 0 then (if x2 = 0 then some (fX12_truth 0) else some (fX12_truth 1)) else some (fX12_truth 1)) else (if x0 = 54 then (if x1 = 0 then (if x2 = 0 then some (fX12_truth 0) else some (fX12_truth 1)) else some (fX12_truth 1)) else (if x0 = 55 then (if x1 = 0 then (if x2 = 0 then some (fX12_truth 0) else some (fX12_truth 1)) else some (fX12_truth 1)) else (if x0 = 56 then (if x1 = 0 then (if x2 = 0 then some (fX12_truth 0) else some (fX12_truth 1)) else some (fX12_truth 1)) else (if x0 = 57 then (if x1 = 0 then (if x2 = 0 then some (fX12_truth 0) else some (fX12_truth 1)) else some (fX12_truth 1)) else (if x0 = 58 then (if x1 = 0 then (if x2 = 0 then some (fX12_truth 0) else some (fX12_truth 1)) else some (fX12_truth 1)) else (if x0 = 59 then (if x1 = 0 then (if x2 = 0 then some (fX12_truth 0) else some (fX12_truth 1)) else some (fX12_truth 1)) else (if x0 = 60 then (if x1 < x2 then some (fX12_truth 1) else some (fX12_truth 0)) else (if x0 = 61 then (if x1 = x2 then some (fX12_truth 1) else some (fX12_truth 0)) else (if x0 = 62 then (if x2 < x1 then some (fX12_truth 1) else some (fX12_truth 0)) else (if x1 = 0 then (if x2 = 0 then some (fX12_truth 0) else some (fX12_truth 1)) else some (fX12_truth 1))))))))))))))))))))))))))))
set_option maxRecDepth 100000 in
set_option maxHeartbeats 4000000 in
theorem tX12_done (d : Nat) (x0 : Int32) (x1 : Int32) (x2 : Int32) (I : Nat → Nat → Int32) (J : Nat → Nat → Int64) (rv sp rr w nw : Nat) (out : Int32) (e : fX12_done x0 x1 x2 = some out) : mm_T none (d + 1) 237 (mm_ent 237 [(.int x0), (.int x1), (.int x2)]) (107, I, J, mm_rf rv sp rr w nw) (fun v h => v = some (.int out) ∧ h = (107, I, J, mm_rf rv sp rr w nw)) := by
  unfold fX12_done at e
  refine mm_T.seg (f' := (1, [some (.int x0), some (.int x1), some (.int x2)], [(.int x0)])) (h' := (107, I, J, mm_rf rv sp rr w nw)) 1 rfl ?_
  by_cases h237 : x0 = 37
  · rw [if_pos h237] at e
    refine mm_T.step (f' := (144, [some (.int x0), some (.int x1), some (.int x2)], [])) (h' := (107, I, J, mm_rf rv sp rr w nw)) (by rw [h237]; rfl) ?_
    refine mm_T.seg (f' := (145, [some (.int x0), some (.int x1), some (.int x2)], [(.int x2)])) (h' := (107, I, J, mm_rf rv sp rr w nw)) 1 rfl ?_
    refine mm_T.br (c := x2 = 0) (a := ((148, [some (.int x0), some (.int x1), some (.int x2)], []), (107, I, J, mm_rf rv sp rr w nw))) (b := ((152, [some (.int x0), some (.int x1), some (.int x2)], []), (107, I, J, mm_rf rv sp rr w nw))) rfl (fun h238 => ?_) (fun h238 => ?_)
    · rw [if_pos h238] at e
      refine mm_T.seg (f' := (155, [some (.int x0), some (.int x1), some (.int x2)], [(.int 0)])) (h' := (107, I, J, mm_rf rv sp rr w nw)) 2 rfl ?_
      cases e
      exact mm_T.ret rfl ⟨rfl, rfl⟩
    · rw [if_neg h238] at e
      refine mm_T.seg (f' := (154, [some (.int x0), some (.int x1), some (.int x2)], [(.int x2), (.int x1)])) (h' := (107, I, J, mm_rf rv sp rr w nw)) 2 rfl ?_
      by_cases h239 : x2 = 0
      · rw [if_pos h239] at e; cases e
      rw [if_neg h239] at e
      refine mm_T.guard (y := ((155, [some (.int x0), some (.int x1), some (.int x2)], [(.int (x1 - x1 / x2 * x2))]), (107, I, J, mm_rf rv sp rr w nw))) rfl h239 ?_
      cases e
      exact mm_T.ret rfl ⟨rfl, rfl⟩
  · rw [if_neg h237] at e
    by_cases h240 : x0 = 38
    · rw [if_pos h240] at e
      refine mm_T.step (f' := (198, [some (.int x0), some (.int x1), some (.int x2)], [])) (h' := (107, I, J, mm_rf rv sp rr w nw)) (by rw [h240]; rfl) ?_
      refine mm_T.seg (f' := (199, [some (.int x0), some (.int x1), some (.int x2)], [(.int x1)])) (h' := (107, I, J, mm_rf rv sp rr w nw)) 1 rfl ?_
      refine mm_T.br (c := x1 = 0) (a := ((210, [some (.int x0), some (.int x1), some (.int x2)], []), (107, I, J, mm_rf rv sp rr w nw))) (b := ((202, [some (.int x0), some (.int x1), some (.int x2)], []), (107, I, J, mm_rf rv sp rr w nw))) rfl (fun h241 => ?_) (fun h241 => ?_)
      · rw [if_pos h241] at e
        refine mm_T.seg (f' := (211, [some (.int x0), some (.int x1), some (.int x2)], [(.int 0)])) (h' := (107, I, J, mm_rf rv sp rr w nw)) 1 rfl ?_
        refine mm_T.call (t := 236) (as := [(.int 0)]) (f' := (214, [some (.int x0), some (.int x1), some (.int x2)], [])) rfl (tX12_truth (d + 0) 0 I J rv sp rr w nw _ rfl) (fun v h hq => ?_)
        obtain ⟨rfl, rfl⟩ := hq
        cases e
        exact mm_T.ret rfl ⟨rfl, rfl⟩
      · rw [if_neg h241] at e
        refine mm_T.seg (f' := (203, [some (.int x0), some (.int x1), some (.int x2)], [(.int x2)])) (h' := (107, I, J, mm_rf rv sp rr w nw)) 1 rfl ?_
        refine mm_T.br (c := x2 = 0) (a := ((210, [some (.int x0), some (.int x1), some (.int x2)], []), (107, I, J, mm_rf rv sp rr w nw))) (b := ((206, [some (.int x0), some (.int x1), some (.int x2)], []), (107, I, J, mm_rf rv sp rr w nw))) rfl (fun h242 => ?_) (fun h242 => ?_)
        · rw [if_pos h242] at e
          refine mm_T.seg (f' := (211, [some (.int x0), some (.int x1), some (.int x2)], [(.int 0)])) (h' := (107, I, J, mm_rf rv sp rr w nw)) 1 rfl ?_
          refine mm_T.call (t := 236) (as := [(.int 0)]) (f' := (214, [some (.int x0), some (.int x1), some (.int x2)], [])) rfl (tX12_truth (d + 0) 0 I J rv sp rr w nw _ rfl) (fun v h hq => ?_)
          obtain ⟨rfl, rfl⟩ := hq
          cases e
          exact mm_T.ret rfl ⟨rfl, rfl⟩
        · rw [if_neg h242] at e
          refine mm_T.seg (f' := (211, [some (.int x0), some (.int x1), some (.int x2)], [(.int 1)])) (h' := (107, I, J, mm_rf rv sp rr w nw)) 2 rfl ?_
          refine mm_T.call (t := 236) (as := [(.int 1)]) (f' := (214, [some (.int x0), some (.int x1), some (.int x2)], [])) rfl (tX12_truth (d + 0) 1 I J rv sp rr w nw _ rfl) (fun v h hq => ?_)
          obtain ⟨rfl, rfl⟩ := hq
          cases e
          exact mm_T.ret rfl ⟨rfl, rfl⟩
    · rw [if_neg h240] at e
      by_cases h243 : x0 = 39
      · rw [if_pos h243] at e
        refine mm_T.step (f' := (215, [some (.int x0), some (.int x1), some (.int x2)], [])) (h' := (107, I, J, mm_rf rv sp rr w nw)) (by rw [h243]; rfl) ?_
        refine mm_T.seg (f' := (216, [some (.int x0), some (.int x1), some (.int x2)], [(.int x1)])) (h' := (107, I, J, mm_rf rv sp rr w nw)) 1 rfl ?_
        refine mm_T.br (c := x1 = 0) (a := ((219, [some (.int x0), some (.int x1), some (.int x2)], []), (107, I, J, mm_rf rv sp rr w nw))) (b := ((223, [some (.int x0), some (.int x1), some (.int x2)], []), (107, I, J, mm_rf rv sp rr w nw))) rfl (fun h244 => ?_) (fun h244 => ?_)
        · rw [if_pos h244] at e
          refine mm_T.seg (f' := (220, [some (.int x0), some (.int x1), some (.int x2)], [(.int x2)])) (h' := (107, I, J, mm_rf rv sp rr w nw)) 1 rfl ?_
          refine mm_T.br (c := x2 = 0) (a := ((227, [some (.int x0), some (.int x1), some (.int x2)], []), (107, I, J, mm_rf rv sp rr w nw))) (b := ((223, [some (.int x0), some (.int x1), some (.int x2)], []), (107, I, J, mm_rf rv sp rr w nw))) rfl (fun h245 => ?_) (fun h245 => ?_)
          · rw [if_pos h245] at e
            refine mm_T.seg (f' := (228, [some (.int x0), some (.int x1), some (.int x2)], [(.int 0)])) (h' := (107, I, J, mm_rf rv sp rr w nw)) 1 rfl ?_
            refine mm_T.call (t := 236) (as := [(.int 0)]) (f' := (231, [some (.int x0), some (.int x1), some (.int x2)], [])) rfl (tX12_truth (d + 0) 0 I J rv sp rr w nw _ rfl) (fun v h hq => ?_)
            obtain ⟨rfl, rfl⟩ := hq
            cases e
            exact mm_T.ret rfl ⟨rfl, rfl⟩
          · rw [if_neg h245] at e
            refine mm_T.seg (f' := (228, [some (.int x0), some (.int x1), some (.int x2)], [(.int 1)])) (h' := (107, I, J, mm_rf rv sp rr w nw)) 2 rfl ?_
            refine mm_T.call (t := 236) (as := [(.int 1)]) (f' := (231, [some (.int x0), some (.int x1), some (.int x2)], [])) rfl (tX12_truth (d + 0) 1 I J rv sp rr w nw _ rfl) (fun v h hq => ?_)
            obtain ⟨rfl, rfl⟩ := hq
            cases e
            exact mm_T.ret rfl ⟨rfl, rfl⟩
        · rw [if_neg h244] at e
          refine mm_T.seg (f' := (228, [some (.int x0), some (.int x1), some (.int x2)], [(.int 1)])) (h' := (107, I, J, mm_rf rv sp rr w nw)) 2 rfl ?_
          refine mm_T.call (t := 236) (as := [(.int 1)]) (f' := (231, [some (.int x0), some (.int x1), some (.int x2)], [])) rfl (tX12_truth (d + 0) 1 I J rv sp rr w nw _ rfl) (fun v h hq => ?_)
          obtain ⟨rfl, rfl⟩ := hq
          cases e
          exact mm_T.ret rfl ⟨rfl, rfl⟩
      · rw [if_neg h243] at e
        by_cases h246 : x0 = 40
        · rw [if_pos h246] at e
          refine mm_T.step (f' := (215, [some (.int x0), some (.int x1), some (.int x2)], [])) (h' := (107, I, J, mm_rf rv sp rr w nw)) (by rw [h246]; rfl) ?_
          refine mm_T.seg (f' := (216, [some (.int x0), some (.int x1), some (.int x2)], [(.int x1)])) (h' := (107, I, J, mm_rf rv sp rr w nw)) 1 rfl ?_
          refine mm_T.br (c := x1 = 0) (a := ((219, [some (.int x0), some (.int x1), some (.int x2)], []), (107, I, J, mm_rf rv sp rr w nw))) (b := ((223, [some (.int x0), some (.int x1), some (.int x2)], []), (107, I, J, mm_rf rv sp rr w nw))) rfl (fun h247 => ?_) (fun h247 => ?_)
          · rw [if_pos h247] at e
            refine mm_T.seg (f' := (220, [some (.int x0), some (.int x1), some (.int x2)], [(.int x2)])) (h' := (107, I, J, mm_rf rv sp rr w nw)) 1 rfl ?_
            refine mm_T.br (c := x2 = 0) (a := ((227, [some (.int x0), some (.int x1), some (.int x2)], []), (107, I, J, mm_rf rv sp rr w nw))) (b := ((223, [some (.int x0), some (.int x1), some (.int x2)], []), (107, I, J, mm_rf rv sp rr w nw))) rfl (fun h248 => ?_) (fun h248 => ?_)
            · rw [if_pos h248] at e
              refine mm_T.seg (f' := (228, [some (.int x0), some (.int x1), some (.int x2)], [(.int 0)])) (h' := (107, I, J, mm_rf rv sp rr w nw)) 1 rfl ?_
              refine mm_T.call (t := 236) (as := [(.int 0)]) (f' := (231, [some (.int x0), some (.int x1), some (.int x2)], [])) rfl (tX12_truth (d + 0) 0 I J rv sp rr w nw _ rfl) (fun v h hq => ?_)
              obtain ⟨rfl, rfl⟩ := hq
              cases e
              exact mm_T.ret rfl ⟨rfl, rfl⟩
            · rw [if_neg h248] at e
              refine mm_T.seg (f' := (228, [some (.int x0), some (.int x1), some (.int x2)], [(.int 1)])) (h' := (107, I, J, mm_rf rv sp rr w nw)) 2 rfl ?_
              refine mm_T.call (t := 236) (as := [(.int 1)]) (f' := (231, [some (.int x0), some (.int x1), some (.int x2)], [])) rfl (tX12_truth (d + 0) 1 I J rv sp rr w nw _ rfl) (fun v h hq => ?_)
              obtain ⟨rfl, rfl⟩ := hq
              cases e
              exact mm_T.ret rfl ⟨rfl, rfl⟩
          · rw [if_neg h247] at e
            refine mm_T.seg (f' := (228, [some (.int x0), some (.int x1), some (.int x2)], [(.int 1)])) (h' := (107, I, J, mm_rf rv sp rr w nw)) 2 rfl ?_
            refine mm_T.call (t := 236) (as := [(.int 1)]) (f' := (231, [some (.int x0), some (.int x1), some (.int x2)], [])) rfl (tX12_truth (d + 0) 1 I J rv sp rr w nw _ rfl) (fun v h hq => ?_)
            obtain ⟨rfl, rfl⟩ := hq
            cases e
            exact mm_T.ret rfl ⟨rfl, rfl⟩
        · rw [if_neg h246] at e
          by_cases h249 : x0 = 41
          · rw [if_pos h249] at e
            refine mm_T.step (f' := (215, [some (.int x0), some (.int x1), some (.int x2)], [])) (h' := (107, I, J, mm_rf rv sp rr w nw)) (by rw [h249]; rfl) ?_
            refine mm_T.seg (f' := (216, [some (.int x0), some (.int x1), some (.int x2)], [(.int x1)])) (h' := (107, I, J, mm_rf rv sp rr w nw)) 1 rfl ?_
            refine mm_T.br (c := x1 = 0) (a := ((219, [some (.int x0), some (.int x1), some (.int x2)], []), (107, I, J, mm_rf rv sp rr w nw))) (b := ((223, [some (.int x0), some (.int x1), some (.int x2)], []), (107, I, J, mm_rf rv sp rr w nw))) rfl (fun h250 => ?_) (fun h250 => ?_)
            · rw [if_pos h250] at e
              refine mm_T.seg (f' := (220, [some (.int x0), some (.int x1), some (.int x2)], [(.int x2)])) (h' := (107, I, J, mm_rf rv sp rr w nw)) 1 rfl ?_
              refine mm_T.br (c := x2 = 0) (a := ((227, [some (.int x0), some (.int x1), some (.int x2)], []), (107, I, J, mm_rf rv sp rr w nw))) (b := ((223, [some (.int x0), some (.int x1), some (.int x2)], []), (107, I, J, mm_rf rv sp rr w nw))) rfl (fun h251 => ?_) (fun h251 => ?_)
              · rw [if_pos h251] at e
                refine mm_T.seg (f' := (228, [some (.int x0), some (.int x1), some (.int x2)], [(.int 0)])) (h' := (107, I, J, mm_rf rv sp rr w nw)) 1 rfl ?_
                refine mm_T.call (t := 236) (as := [(.int 0)]) (f' := (231, [some (.int x0), some (.int x1), some (.int x2)], [])) rfl (tX12_truth (d + 0) 0 I J rv sp rr w nw _ rfl) (fun v h hq => ?_)
                obtain ⟨rfl, rfl⟩ := hq
                cases e
                exact mm_T.ret rfl ⟨rfl, rfl⟩
              · rw [if_neg h251] at e
                refine mm_T.seg (f' := (228, [some (.int x0), some (.int x1), some (.int x2)], [(.int 1)])) (h' := (107, I, J, mm_rf rv sp rr w nw)) 2 rfl ?_
                refine mm_T.call (t := 236) (as := [(.int 1)]) (f' := (231, [some (.int x0), some (.int x1), some (.int x2)], [])) rfl (tX12_truth (d + 0) 1 I J rv sp rr w nw _ rfl) (fun v h hq => ?_)
                obtain ⟨rfl, rfl⟩ := hq
                cases e
                exact mm_T.ret rfl ⟨rfl, rfl⟩
            · rw [if_neg h250] at e
              refine mm_T.seg (f' := (228, [some (.int x0), some (.int x1), some (.int x2)], [(.int 1)])) (h' := (107, I, J, mm_rf rv sp rr w nw)) 2 rfl ?_
              refine mm_T.call (t := 236) (as := [(.int 1)]) (f' := (231, [some (.int x0), some (.int x1), some (.int x2)], [])) rfl (tX12_truth (d + 0) 1 I J rv sp rr w nw _ rfl) (fun v h hq => ?_)
              obtain ⟨rfl, rfl⟩ := hq
              cases e
              exact mm_T.ret rfl ⟨rfl, rfl⟩
          · rw [if_neg h249] at e
            by_cases h252 : x0 = 42
            · rw [if_pos h252] at e
              refine mm_T.step (f' := (128, [some (.int x0), some (.int x1), some (.int x2)], [])) (h' := (107, I, J, mm_rf rv sp rr w nw)) (by rw [h252]; rfl) ?_
              refine mm_T.seg (f' := (131, [some (.int x0), some (.int x1), some (.int x2)], [(.int (x1 * x2))])) (h' := (107, I, J, mm_rf rv sp rr w nw)) 3 rfl ?_
              cases e
              exact mm_T.ret rfl ⟨rfl, rfl⟩
            · rw [if_neg h252] at e
              by_cases h253 : x0 = 43
              · rw [if_pos h253] at e
                refine mm_T.step (f' := (120, [some (.int x0), some (.int x1), some (.int x2)], [])) (h' := (107, I, J, mm_rf rv sp rr w nw)) (by rw [h253]; rfl) ?_
                refine mm_T.seg (f' := (123, [some (.int x0), some (.int x1), some (.int x2)], [(.int (x1 + x2))])) (h' := (107, I, J, mm_rf rv sp rr w nw)) 3 rfl ?_
                cases e
                exact mm_T.ret rfl ⟨rfl, rfl⟩
              · rw [if_neg h253] at e
                by_cases h254 : x0 = 44
                · rw [if_pos h254] at e
                  refine mm_T.step (f' := (215, [some (.int x0), some (.int x1), some (.int x2)], [])) (h' := (107, I, J, mm_rf rv sp rr w nw)) (by rw [h254]; rfl) ?_
                  refine mm_T.seg (f' := (216, [some (.int x0), some (.int x1), some (.int x2)], [(.int x1)])) (h' := (107, I, J, mm_rf rv sp rr w nw)) 1 rfl ?_
                  refine mm_T.br (c := x1 = 0) (a := ((219, [some (.int x0), some (.int x1), some (.int x2)], []), (107, I, J, mm_rf rv sp rr w nw))) (b := ((223, [some (.int x0), some (.int x1), some (.int x2)], []), (107, I, J, mm_rf rv sp rr w nw))) rfl (fun h255 => ?_) (fun h255 => ?_)
                  · rw [if_pos h255] at e
                    refine mm_T.seg (f' := (220, [some (.int x0), some (.int x1), some (.int x2)], [(.int x2)])) (h' := (107, I, J, mm_rf rv sp rr w nw)) 1 rfl ?_
                    refine mm_T.br (c := x2 = 0) (a := ((227, [some (.int x0), some (.int x1), some (.int x2)], []), (107, I, J, mm_rf rv sp rr w nw))) (b := ((223, [some (.int x0), some (.int x1), some (.int x2)], []), (107, I, J, mm_rf rv sp rr w nw))) rfl (fun h256 => ?_) (fun h256 => ?_)
                    · rw [if_pos h256] at e
                      refine mm_T.seg (f' := (228, [some (.int x0), some (.int x1), some (.int x2)], [(.int 0)])) (h' := (107, I, J, mm_rf rv sp rr w nw)) 1 rfl ?_
                      refine mm_T.call (t := 236) (as := [(.int 0)]) (f' := (231, [some (.int x0), some (.int x1), some (.int x2)], [])) rfl (tX12_truth (d + 0) 0 I J rv sp rr w nw _ rfl) (fun v h hq => ?_)
                      obtain ⟨rfl, rfl⟩ := hq
                      cases e
                      exact mm_T.ret rfl ⟨rfl, rfl⟩
                    · rw [if_neg h256] at e
                      refine mm_T.seg (f' := (228, [some (.int x0), some (.int x1), some (.int x2)], [(.int 1)])) (h' := (107, I, J, mm_rf rv sp rr w nw)) 2 rfl ?_
                      refine mm_T.call (t := 236) (as := [(.int 1)]) (f' := (231, [some (.int x0), some (.int x1), some (.int x2)], [])) rfl (tX12_truth (d + 0) 1 I J rv sp rr w nw _ rfl) (fun v h hq => ?_)
                      obtain ⟨rfl, rfl⟩ := hq
                      cases e
                      exact mm_T.ret rfl ⟨rfl, rfl⟩
                  · rw [if_neg h255] at e
                    refine mm_T.seg (f' := (228, [some (.int x0), some (.int x1), some (.int x2)], [(.int 1)])) (h' := (107, I, J, mm_rf rv sp rr w nw)) 2 rfl ?_
                    refine mm_T.call (t := 236) (as := [(.int 1)]) (f' := (231, [some (.int x0), some (.int x1), some (.int x2)], [])) rfl (tX12_truth (d + 0) 1 I J rv sp rr w nw _ rfl) (fun v h hq => ?_)
                    obtain ⟨rfl, rfl⟩ := hq
                    cases e
                    exact mm_T.ret rfl ⟨rfl, rfl⟩
                · rw [if_neg h254] at e
                  by_cases h257 : x0 = 45
                  · rw [if_pos h257] at e
                    refine mm_T.step (f' := (124, [some (.int x0), some (.int x1), some (.int x2)], [])) (h' := (107, I, J, mm_rf rv sp rr w nw)) (by rw [h257]; rfl) ?_
                    refine mm_T.seg (f' := (127, [some (.int x0), some (.int x1), some (.int x2)], [(.int (x1 - x2))])) (h' := (107, I, J, mm_rf rv sp rr w nw)) 3 rfl ?_
                    cases e
                    exact mm_T.ret rfl ⟨rfl, rfl⟩
                  · rw [if_neg h257] at e
                    by_cases h258 : x0 = 46
                    · rw [if_pos h258] at e
                      refine mm_T.step (f' := (215, [some (.int x0), some (.int x1), some (.int x2)], [])) (h' := (107, I, J, mm_rf rv sp rr w nw)) (by rw [h258]; rfl) ?_
                      refine mm_T.seg (f' := (216, [some (.int x0), some (.int x1), some (.int x2)], [(.int x1)])) (h' := (107, I, J, mm_rf rv sp rr w nw)) 1 rfl ?_
                      refine mm_T.br (c := x1 = 0) (a := ((219, [some (.int x0), some (.int x1), some (.int x2)], []), (107, I, J, mm_rf rv sp rr w nw))) (b := ((223, [some (.int x0), some (.int x1), some (.int x2)], []), (107, I, J, mm_rf rv sp rr w nw))) rfl (fun h259 => ?_) (fun h259 => ?_)
                      · rw [if_pos h259] at e
                        refine mm_T.seg (f' := (220, [some (.int x0), some (.int x1), some (.int x2)], [(.int x2)])) (h' := (107, I, J, mm_rf rv sp rr w nw)) 1 rfl ?_
                        refine mm_T.br (c := x2 = 0) (a := ((227, [some (.int x0), some (.int x1), some (.int x2)], []), (107, I, J, mm_rf rv sp rr w nw))) (b := ((223, [some (.int x0), some (.int x1), some (.int x2)], []), (107, I, J, mm_rf rv sp rr w nw))) rfl (fun h260 => ?_) (fun h260 => ?_)
                        · rw [if_pos h260] at e
                          refine mm_T.seg (f' := (228, [some (.int x0), some (.int x1), some (.int x2)], [(.int 0)])) (h' := (107, I, J, mm_rf rv sp rr w nw)) 1 rfl ?_
                          refine mm_T.call (t := 236) (as := [(.int 0)]) (f' := (231, [some (.int x0), some (.int x1), some (.int x2)], [])) rfl (tX12_truth (d + 0) 0 I J rv sp rr w nw _ rfl) (fun v h hq => ?_)
                          obtain ⟨rfl, rfl⟩ := hq
                          cases e
                          exact mm_T.ret rfl ⟨rfl, rfl⟩
                        · rw [if_neg h260] at e
                          refine mm_T.seg (f' := (228, [some (.int x0), some (.int x1), some (.int x2)], [(.int 1)])) (h' := (107, I, J, mm_rf rv sp rr w nw)) 2 rfl ?_
                          refine mm_T.call (t := 236) (as := [(.int 1)]) (f' := (231, [some (.int x0), some (.int x1), some (.int x2)], [])) rfl (tX12_truth (d + 0) 1 I J rv sp rr w nw _ rfl) (fun v h hq => ?_)
                          obtain ⟨rfl, rfl⟩ := hq
                          cases e
                          exact mm_T.ret rfl ⟨rfl, rfl⟩
                      · rw [if_neg h259] at e
                        refine mm_T.seg (f' := (228, [some (.int x0), some (.int x1), some (.int x2)], [(.int 1)])) (h' := (107, I, J, mm_rf rv sp rr w nw)) 2 rfl ?_
                        refine mm_T.call (t := 236) (as := [(.int 1)]) (f' := (231, [some (.int x0), some (.int x1), some (.int x2)], [])) rfl (tX12_truth (d + 0) 1 I J rv sp rr w nw _ rfl) (fun v h hq => ?_)
                        obtain ⟨rfl, rfl⟩ := hq
                        cases e
                        exact mm_T.ret rfl ⟨rfl, rfl⟩
                    · rw [if_neg h258] at e
                      by_cases h261 : x0 = 47
                      · rw [if_pos h261] at e
                        refine mm_T.step (f' := (132, [some (.int x0), some (.int x1), some (.int x2)], [])) (h' := (107, I, J, mm_rf rv sp rr w nw)) (by rw [h261]; rfl) ?_
                        refine mm_T.seg (f' := (133, [some (.int x0), some (.int x1), some (.int x2)], [(.int x2)])) (h' := (107, I, J, mm_rf rv sp rr w nw)) 1 rfl ?_
                        refine mm_T.br (c := x2 = 0) (a := ((136, [some (.int x0), some (.int x1), some (.int x2)], []), (107, I, J, mm_rf rv sp rr w nw))) (b := ((140, [some (.int x0), some (.int x1), some (.int x2)], []), (107, I, J, mm_rf rv sp rr w nw))) rfl (fun h262 => ?_) (fun h262 => ?_)
                        · rw [if_pos h262] at e
                          refine mm_T.seg (f' := (143, [some (.int x0), some (.int x1), some (.int x2)], [(.int 0)])) (h' := (107, I, J, mm_rf rv sp rr w nw)) 2 rfl ?_
                          cases e
                          exact mm_T.ret rfl ⟨rfl, rfl⟩
                        · rw [if_neg h262] at e
                          refine mm_T.seg (f' := (142, [some (.int x0), some (.int x1), some (.int x2)], [(.int x2), (.int x1)])) (h' := (107, I, J, mm_rf rv sp rr w nw)) 2 rfl ?_
                          by_cases h263 : x2 = 0
                          · rw [if_pos h263] at e; cases e
                          rw [if_neg h263] at e
                          refine mm_T.guard (y := ((143, [some (.int x0), some (.int x1), some (.int x2)], [(.int (x1 / x2))]), (107, I, J, mm_rf rv sp rr w nw))) rfl h263 ?_
                          cases e
                          exact mm_T.ret rfl ⟨rfl, rfl⟩
                      · rw [if_neg h261] at e
                        by_cases h264 : x0 = 48
                        · rw [if_pos h264] at e
                          refine mm_T.step (f' := (215, [some (.int x0), some (.int x1), some (.int x2)], [])) (h' := (107, I, J, mm_rf rv sp rr w nw)) (by rw [h264]; rfl) ?_
                          refine mm_T.seg (f' := (216, [some (.int x0), some (.int x1), some (.int x2)], [(.int x1)])) (h' := (107, I, J, mm_rf rv sp rr w nw)) 1 rfl ?_
                          refine mm_T.br (c := x1 = 0) (a := ((219, [some (.int x0), some (.int x1), some (.int x2)], []), (107, I, J, mm_rf rv sp rr w nw))) (b := ((223, [some (.int x0), some (.int x1), some (.int x2)], []), (107, I, J, mm_rf rv sp rr w nw))) rfl (fun h265 => ?_) (fun h265 => ?_)
                          · rw [if_pos h265] at e
                            refine mm_T.seg (f' := (220, [some (.int x0), some (.int x1), some (.int x2)], [(.int x2)])) (h' := (107, I, J, mm_rf rv sp rr w nw)) 1 rfl ?_
                            refine mm_T.br (c := x2 = 0) (a := ((227, [some (.int x0), some (.int x1), some (.int x2)], []), (107, I, J, mm_rf rv sp rr w nw))) (b := ((223, [some (.int x0), some (.int x1), some (.int x2)], []), (107, I, J, mm_rf rv sp rr w nw))) rfl (fun h266 => ?_) (fun h266 => ?_)
                            · rw [if_pos h266] at e
                              refine mm_T.seg (f' := (228, [some (.int x0), some (.int x1), some (.int x2)], [(.int 0)])) (h' := (107, I, J, mm_rf rv sp rr w nw)) 1 rfl ?_
                              refine mm_T.call (t := 236) (as := [(.int 0)]) (f' := (231, [some (.int x0), some (.int x1), some (.int x2)], [])) rfl (tX12_truth (d + 0) 0 I J rv sp rr w nw _ rfl) (fun v h hq => ?_)
                              obtain ⟨rfl, rfl⟩ := hq
                              cases e
                              exact mm_T.ret rfl ⟨rfl, rfl⟩
                            · rw [if_neg h266] at e
                              refine mm_T.seg (f' := (228, [some (.int x0), some (.int x1), some (.int x2)], [(.int 1)])) (h' := (107, I, J, mm_rf rv sp rr w nw)) 2 rfl ?_
                              refine mm_T.call (t := 236) (as := [(.int 1)]) (f' := (231, [some (.int x0), some (.int x1), some (.int x2)], [])) rfl (tX12_truth (d + 0) 1 I J rv sp rr w nw _ rfl) (fun v h hq => ?_)
                              obtain ⟨rfl, rfl⟩ := hq
                              cases e
                              exact mm_T.ret rfl ⟨rfl, rfl⟩
                          · rw [if_neg h265] at e
                            refine mm_T.seg (f' := (228, [some (.int x0), some (.int x1), some (.int x2)], [(.int 1)])) (h' := (107, I, J, mm_rf rv sp rr w nw)) 2 rfl ?_
                            refine mm_T.call (t := 236) (as := [(.int 1)]) (f' := (231, [some (.int x0), some (.int x1), some (.int x2)], [])) rfl (tX12_truth (d + 0) 1 I J rv sp rr w nw _ rfl) (fun v h hq => ?_)
                            obtain ⟨rfl, rfl⟩ := hq
                            cases e
                            exact mm_T.ret rfl ⟨rfl, rfl⟩
                        · rw [if_neg h264] at e
                          by_cases h267 : x0 = 49
                          · rw [if_pos h267] at e
                            refine mm_T.step (f' := (215, [some (.int x0), some (.int x1), some (.int x2)], [])) (h' := (107, I, J, mm_rf rv sp rr w nw)) (by rw [h267]; rfl) ?_
                            refine mm_T.seg (f' := (216, [some (.int x0), some (.int x1), some (.int x2)], [(.int x1)])) (h' := (107, I, J, mm_rf rv sp rr w nw)) 1 rfl ?_
                            refine mm_T.br (c := x1 = 0) (a := ((219, [some (.int x0), some (.int x1), some (.int x2)], []), (107, I, J, mm_rf rv sp rr w nw))) (b := ((223, [some (.int x0), some (.int x1), some (.int x2)], []), (107, I, J, mm_rf rv sp rr w nw))) rfl (fun h268 => ?_) (fun h268 => ?_)
                            · rw [if_pos h268] at e
                              refine mm_T.seg (f' := (220, [some (.int x0), some (.int x1), some (.int x2)], [(.int x2)])) (h' := (107, I, J, mm_rf rv sp rr w nw)) 1 rfl ?_
                              refine mm_T.br (c := x2 = 0) (a := ((227, [some (.int x0), some (.int x1), some (.int x2)], []), (107, I, J, mm_rf rv sp rr w nw))) (b := ((223, [some (.int x0), some (.int x1), some (.int x2)], []), (107, I, J, mm_rf rv sp rr w nw))) rfl (fun h269 => ?_) (fun h269 => ?_)
                              · rw [if_pos h269] at e
                                refine mm_T.seg (f' := (228, [some (.int x0), some (.int x1), some (.int x2)], [(.int 0)])) (h' := (107, I, J, mm_rf rv sp rr w nw)) 1 rfl ?_
                                refine mm_T.call (t := 236) (as := [(.int 0)]) (f' := (231, [some (.int x0), some (.int x1), some (.int x2)], [])) rfl (tX12_truth (d + 0) 0 I J rv sp rr w nw _ rfl) (fun v h hq => ?_)
                                obtain ⟨rfl, rfl⟩ := hq
                                cases e
                                exact mm_T.ret rfl ⟨rfl, rfl⟩
                              · rw [if_neg h269] at e
                                refine mm_T.seg (f' := (228, [some (.int x0), some (.int x1), some (.int x2)], [(.int 1)])) (h' := (107, I, J, mm_rf rv sp rr w nw)) 2 rfl ?_
                                refine mm_T.call (t := 236) (as := [(.int 1)]) (f' := (231, [some (.int x0), some (.int x1), some (.int x2)], [])) rfl (tX12_truth (d + 0) 1 I J rv sp rr w nw _ rfl) (fun v h hq => ?_)
                                obtain ⟨rfl, rfl⟩ := hq
                                cases e
                                exact mm_T.ret rfl ⟨rfl, rfl⟩
                            · rw [if_neg h268] at e
                              refine mm_T.seg (f' := (228, [some (.int x0), some (.int x1), some (.int x2)], [(.int 1)])) (h' := (107, I, J, mm_rf rv sp rr w nw)) 2 rfl ?_
                              refine mm_T.call (t := 236) (as := [(.int 1)]) (f' := (231, [some (.int x0), some (.int x1), some (.int x2)], [])) rfl (tX12_truth (d + 0) 1 I J rv sp rr w nw _ rfl) (fun v h hq => ?_)
                              obtain ⟨rfl, rfl⟩ := hq
                              cases e
                              exact mm_T.ret rfl ⟨rfl, rfl⟩
                          · rw [if_neg h267] at e
                            by_cases h270 : x0 = 50
                            · rw [if_pos h270] at e
                              refine mm_T.step (f' := (215, [some (.int x0), some (.int x1), some (.int x2)], [])) (h' := (107, I, J, mm_rf rv sp rr w nw)) (by rw [h270]; rfl) ?_
                              refine mm_T.seg (f' := (216, [some (.int x0), some (.int x1), some (.int x2)], [(.int x1)])) (h' := (107, I, J, mm_rf rv sp rr w nw)) 1 rfl ?_
                              refine mm_T.br (c := x1 = 0) (a := ((219, [some (.int x0), some (.int x1), some (.int x2)], []), (107, I, J, mm_rf rv sp rr w nw))) (b := ((223, [some (.int x0), some (.int x1), some (.int x2)], []), (107, I, J, mm_rf rv sp rr w nw))) rfl (fun h271 => ?_) (fun h271 => ?_)
                              · rw [if_pos h271] at e
                                refine mm_T.seg (f' := (220, [some (.int x0), some (.int x1), some (.int x2)], [(.int x2)])) (h' := (107, I, J, mm_rf rv sp rr w nw)) 1 rfl ?_
                                refine mm_T.br (c := x2 = 0) (a := ((227, [some (.int x0), some (.int x1), some (.int x2)], []), (107, I, J, mm_rf rv sp rr w nw))) (b := ((223, [some (.int x0), some (.int x1), some (.int x2)], []), (107, I, J, mm_rf rv sp rr w nw))) rfl (fun h272 => ?_) (fun h272 => ?_)
                                · rw [if_pos h272] at e
                                  refine mm_T.seg (f' := (228, [some (.int x0), some (.int x1), some (.int x2)], [(.int 0)])) (h' := (107, I, J, mm_rf rv sp rr w nw)) 1 rfl ?_
                                  refine mm_T.call (t := 236) (as := [(.int 0)]) (f' := (231, [some (.int x0), some (.int x1), some (.int x2)], [])) rfl (tX12_truth (d + 0) 0 I J rv sp rr w nw _ rfl) (fun v h hq => ?_)
                                  obtain ⟨rfl, rfl⟩ := hq
                                  cases e
                                  exact mm_T.ret rfl ⟨rfl, rfl⟩
                                · rw [if_neg h272] at e
                                  refine mm_T.seg (f' := (228, [some (.int x0), some (.int x1), some (.int x2)], [(.int 1)])) (h' := (107, I, J, mm_rf rv sp rr w nw)) 2 rfl ?_
                                  refine mm_T.call (t := 236) (as := [(.int 1)]) (f' := (231, [some (.int x0), some (.int x1), some (.int x2)], [])) rfl (tX12_truth (d + 0) 1 I J rv sp rr w nw _ rfl) (fun v h hq => ?_)
                                  obtain ⟨rfl, rfl⟩ := hq
                                  cases e
                                  exact mm_T.ret rfl ⟨rfl, rfl⟩
                              · rw [if_neg h271] at e
                                refine mm_T.seg (f' := (228, [some (.int x0), some (.int x1), some (.int x2)], [(.int 1)])) (h' := (107, I, J, mm_rf rv sp rr w nw)) 2 rfl ?_
                                refine mm_T.call (t := 236) (as := [(.int 1)]) (f' := (231, [some (.int x0), some (.int x1), some (.int x2)], [])) rfl (tX12_truth (d + 0) 1 I J rv sp rr w nw _ rfl) (fun v h hq => ?_)
                                obtain ⟨rfl, rfl⟩ := hq
                                cases e
                                exact mm_T.ret rfl ⟨rfl, rfl⟩
                            · rw [if_neg h270] at e
                              by_cases h273 : x0 = 51
                              · rw [if_pos h273] at e
                                refine mm_T.step (f' := (215, [some (.int x0), some (.int x1), some (.int x2)], [])) (h' := (107, I, J, mm_rf rv sp rr w nw)) (by rw [h273]; rfl) ?_
                                refine mm_T.seg (f' := (216, [some (.int x0), some (.int x1), some (.int x2)], [(.int x1)])) (h' := (107, I, J, mm_rf rv sp rr w nw)) 1 rfl ?_
                                refine mm_T.br (c := x1 = 0) (a := ((219, [some (.int x0), some (.int x1), some (.int x2)], []), (107, I, J, mm_rf rv sp rr w nw))) (b := ((223, [some (.int x0), some (.int x1), some (.int x2)], []), (107, I, J, mm_rf rv sp rr w nw))) rfl (fun h274 => ?_) (fun h274 => ?_)
                                · rw [if_pos h274] at e
                                  refine mm_T.seg (f' := (220, [some (.int x0), some (.int x1), some (.int x2)], [(.int x2)])) (h' := (107, I, J, mm_rf rv sp rr w nw)) 1 rfl ?_
                                  refine mm_T.br (c := x2 = 0) (a := ((227, [some (.int x0), some (.int x1), some (.int x2)], []), (107, I, J, mm_rf rv sp rr w nw))) (b := ((223, [some (.int x0), some (.int x1), some (.int x2)], []), (107, I, J, mm_rf rv sp rr w nw))) rfl (fun h275 => ?_) (fun h275 => ?_)
                                  · rw [if_pos h275] at e
                                    refine mm_T.seg (f' := (228, [some (.int x0), some (.int x1), some (.int x2)], [(.int 0)])) (h' := (107, I, J, mm_rf rv sp rr w nw)) 1 rfl ?_
                                    refine mm_T.call (t := 236) (as := [(.int 0)]) (f' := (231, [some (.int x0), some (.int x1), some (.int x2)], [])) rfl (tX12_truth (d + 0) 0 I J rv sp rr w nw _ rfl) (fun v h hq => ?_)
                                    obtain ⟨rfl, rfl⟩ := hq
                                    cases e
                                    exact mm_T.ret rfl ⟨rfl, rfl⟩
                                  · rw [if_neg h275] at e
                                    refine mm_T.seg (f' := (228, [some (.int x0), some (.int x1), some (.int x2)], [(.int 1)])) (h' := (107, I, J, mm_rf rv sp rr w nw)) 2 rfl ?_
                                    refine mm_T.call (t := 236) (as := [(.int 1)]) (f' := (231, [some (.int x0), some (.int x1), some (.int x2)], [])) rfl (tX12_truth (d + 0) 1 I J rv sp rr w nw _ rfl) (fun v h hq => ?_)
                                    obtain ⟨rfl, rfl⟩ := hq
                                    cases e
                                    exact mm_T.ret rfl ⟨rfl, rfl⟩
                                · rw [if_neg h274] at e
                                  refine mm_T.seg (f' := (228, [some (.int x0), some (.int x1), some (.int x2)], [(.int 1)])) (h' := (107, I, J, mm_rf rv sp rr w nw)) 2 rfl ?_
                                  refine mm_T.call (t := 236) (as := [(.int 1)]) (f' := (231, [some (.int x0), some (.int x1), some (.int x2)], [])) rfl (tX12_truth (d + 0) 1 I J rv sp rr w nw _ rfl) (fun v h hq => ?_)
                                  obtain ⟨rfl, rfl⟩ := hq
                                  cases e
                                  exact mm_T.ret rfl ⟨rfl, rfl⟩
                              · rw [if_neg h273] at e
                                by_cases h276 : x0 = 52
                                · rw [if_pos h276] at e
                                  refine mm_T.step (f' := (215, [some (.int x0), some (.int x1), some (.int x2)], [])) (h' := (107, I, J, mm_rf rv sp rr w nw)) (by rw [h276]; rfl) ?_
                                  refine mm_T.seg (f' := (216, [some (.int x0), some (.int x1), some (.int x2)], [(.int x1)])) (h' := (107, I, J, mm_rf rv sp rr w nw)) 1 rfl ?_
                                  refine mm_T.br (c := x1 = 0) (a := ((219, [some (.int x0), some (.int x1), some (.int x2)], []), (107, I, J, mm_rf rv sp rr w nw))) (b := ((223, [some (.int x0), some (.int x1), some (.int x2)], []), (107, I, J, mm_rf rv sp rr w nw))) rfl (fun h277 => ?_) (fun h277 => ?_)
                                  · rw [if_pos h277] at e
                                    refine mm_T.seg (f' := (220, [some (.int x0), some (.int x1), some (.int x2)], [(.int x2)])) (h' := (107, I, J, mm_rf rv sp rr w nw)) 1 rfl ?_
                                    refine mm_T.br (c := x2 = 0) (a := ((227, [some (.int x0), some (.int x1), some (.int x2)], []), (107, I, J, mm_rf rv sp rr w nw))) (b := ((223, [some (.int x0), some (.int x1), some (.int x2)], []), (107, I, J, mm_rf rv sp rr w nw))) rfl (fun h278 => ?_) (fun h278 => ?_)
                                    · rw [if_pos h278] at e
                                      refine mm_T.seg (f' := (228, [some (.int x0), some (.int x1), some (.int x2)], [(.int 0)])) (h' := (107, I, J, mm_rf rv sp rr w nw)) 1 rfl ?_
                                      refine mm_T.call (t := 236) (as := [(.int 0)]) (f' := (231, [some (.int x0), some (.int x1), some (.int x2)], [])) rfl (tX12_truth (d + 0) 0 I J rv sp rr w nw _ rfl) (fun v h hq => ?_)
                                      obtain ⟨rfl, rfl⟩ := hq
                                      cases e
                                      exact mm_T.ret rfl ⟨rfl, rfl⟩
                                    · rw [if_neg h278] at e
                                      refine mm_T.seg (f' := (228, [some (.int x0), some (.int x1), some (.int x2)], [(.int 1)])) (h' := (107, I, J, mm_rf rv sp rr w nw)) 2 rfl ?_
                                      refine mm_T.call (t := 236) (as := [(.int 1)]) (f' := (231, [some (.int x0), some (.int x1), some (.int x2)], [])) rfl (tX12_truth (d + 0) 1 I J rv sp rr w nw _ rfl) (fun v h hq => ?_)
                                      obtain ⟨rfl, rfl⟩ := hq
                                      cases e
                                      exact mm_T.ret rfl ⟨rfl, rfl⟩
                                  · rw [if_neg h277] at e
                                    refine mm_T.seg (f' := (228, [some (.int x0), some (.int x1), some (.int x2)], [(.int 1)])) (h' := (107, I, J, mm_rf rv sp rr w nw)) 2 rfl ?_
                                    refine mm_T.call (t := 236) (as := [(.int 1)]) (f' := (231, [some (.int x0), some (.int x1), some (.int x2)], [])) rfl (tX12_truth (d + 0) 1 I J rv sp rr w nw _ rfl) (fun v h hq => ?_)
                                    obtain ⟨rfl, rfl⟩ := hq
                                    cases e
                                    exact mm_T.ret rfl ⟨rfl, rfl⟩
                                · rw [if_neg h276] at e
                                  by_cases h279 : x0 = 53
                                  · rw [if_pos h279] at e
                                    refine mm_T.step (f' := (215, [some (.int x0), some (.int x1), some (.int x2)], [])) (h' := (107, I, J, mm_rf rv sp rr w nw)) (by rw [h279]; rfl) ?_
                                    refine mm_T.seg (f' := (216, [some (.int x0), some (.int x1), some (.int x2)], [(.int x1)])) (h' := (107, I, J, mm_rf rv sp rr w nw)) 1 rfl ?_
                                    refine mm_T.br (c := x1 = 0) (a := ((219, [some (.int x0), some (.int x1), some (.int x2)], []), (107, I, J, mm_rf rv sp rr w nw))) (b := ((223, [some (.int x0), some (.int x1), some (.int x2)], []), (107, I, J, mm_rf rv sp rr w nw))) rfl (fun h280 => ?_) (fun h280 => ?_)
                                    · rw [if_pos h280] at e
                                      refine mm_T.seg (f' := (220, [some (.int x0), some (.int x1), some (.int x2)], [(.int x2)])) (h' := (107, I, J, mm_rf rv sp rr w nw)) 1 rfl ?_
                                      refine mm_T.br (c := x2 = 0) (a := ((227, [some (.int x0), some (.int x1), some (.int x2)], []), (107, I, J, mm_rf rv sp rr w nw))) (b := ((223, [some (.int x0), some (.int x1), some (.int x2)], []), (107, I, J, mm_rf rv sp rr w nw))) rfl (fun h281 => ?_) (fun h281 => ?_)
                                      · rw [if_pos h281] at e
                                        refine mm_T.seg (f' := (228, [some (.int x0), some (.int x1), some (.int x2)], [(.int 0)])) (h' := (107, I, J, mm_rf rv sp rr w nw)) 1 rfl ?_
                                        refine mm_T.call (t := 236) (as := [(.int 0)]) (f' := (231, [some (.int x0), some (.int x1), some (.int x2)], [])) rfl (tX12_truth (d + 0) 0 I J rv sp rr w nw _ rfl) (fun v h hq => ?_)
                                        obtain ⟨rfl, rfl⟩ := hq
                                        cases e
                                        exact mm_T.ret rfl ⟨rfl, rfl⟩
                                      · rw [if_neg h281] at e
                                        refine mm_T.seg (f' := (228, [some (.int x0), some (.int x1), some (.int x2)], [(.int 1)])) (h' := (107, I, J, mm_rf rv sp rr w nw)) 2 rfl ?_
                                        refine mm_T.call (t := 236) (as := [(.int 1)]) (f' := (231, [some (.int x0), some (.int x1), some (.int x2)], [])) rfl (tX12_truth (d + 0) 1 I J rv sp rr w nw _ rfl) (fun v h hq => ?_)
                                        obtain ⟨rfl, rfl⟩ := hq
                                        cases e
                                        exact mm_T.ret rfl ⟨rfl, rfl⟩
                                    · rw [if_neg h280] at e
                                      refine mm_T.seg (f' := (228, [some (.int x0), some (.int x1), some (.int x2)], [(.int 1)])) (h' := (107, I, J, mm_rf rv sp rr w nw)) 2 rfl ?_
                                      refine mm_T.call (t := 236) (as := [(.int 1)]) (f' := (231, [some (.int x0), some (.int x1), some (.int x2)], [])) rfl (tX12_truth (d + 0) 1 I J rv sp rr w nw _ rfl) (fun v h hq => ?_)
                                      obtain ⟨rfl, rfl⟩ := hq
                                      cases e
                                      exact mm_T.ret rfl ⟨rfl, rfl⟩
                                  · rw [if_neg h279] at e
                                    by_cases h282 : x0 = 54
                                    · rw [if_pos h282] at e
                                      refine mm_T.step (f' := (215, [some (.int x0), some (.int x1), some (.int x2)], [])) (h' := (107, I, J, mm_rf rv sp rr w nw)) (by rw [h282]; rfl) ?_
                                      refine mm_T.seg (f' := (216, [some (.int x0), some (.int x1), some (.int x2)], [(.int x1)])) (h' := (107, I, J, mm_rf rv sp rr w nw)) 1 rfl ?_
                                      refine mm_T.br (c := x1 = 0) (a := ((219, [some (.int x0), some (.int x1), some (.int x2)], []), (107, I, J, mm_rf rv sp rr w nw))) (b := ((223, [some (.int x0), some (.int x1), some (.int x2)], []), (107, I, J, mm_rf rv sp rr w nw))) rfl (fun h283 => ?_) (fun h283 => ?_)
                                      · rw [if_pos h283] at e
                                        refine mm_T.seg (f' := (220, [some (.int x0), some (.int x1), some (.int x2)], [(.int x2)])) (h' := (107, I, J, mm_rf rv sp rr w nw)) 1 rfl ?_
                                        refine mm_T.br (c := x2 = 0) (a := ((227, [some (.int x0), some (.int x1), some (.int x2)], []), (107, I, J, mm_rf rv sp rr w nw))) (b := ((223, [some (.int x0), some (.int x1), some (.int x2)], []), (107, I, J, mm_rf rv sp rr w nw))) rfl (fun h284 => ?_) (fun h284 => ?_)
                                        · rw [if_pos h284] at e
                                          refine mm_T.seg (f' := (228, [some (.int x0), some (.int x1), some (.int x2)], [(.int 0)])) (h' := (107, I, J, mm_rf rv sp rr w nw)) 1 rfl ?_
                                          refine mm_T.call (t := 236) (as := [(.int 0)]) (f' := (231, [some (.int x0), some (.int x1), some (.int x2)], [])) rfl (tX12_truth (d + 0) 0 I J rv sp rr w nw _ rfl) (fun v h hq => ?_)
                                          obtain ⟨rfl, rfl⟩ := hq
                                          cases e
                                          exact mm_T.ret rfl ⟨rfl, rfl⟩
                                        · rw [if_neg h284] at e
                                          refine mm_T.seg (f' := (228, [some (.int x0), some (.int x1), some (.int x2)], [(.int 1)])) (h' := (107, I, J, mm_rf rv sp rr w nw)) 2 rfl ?_
                                          refine mm_T.call (t := 236) (as := [(.int 1)]) (f' := (231, [some (.int x0), some (.int x1), some (.int x2)], [])) rfl (tX12_truth (d + 0) 1 I J rv sp rr w nw _ rfl) (fun v h hq => ?_)
                                          obtain ⟨rfl, rfl⟩ := hq
                                          cases e
                                          exact mm_T.ret rfl ⟨rfl, rfl⟩
                                      · rw [if_neg h283] at e
                                        refine mm_T.seg (f' := (228, [some (.int x0), some (.int x1), some (.int x2)], [(.int 1)])) (h' := (107, I, J, mm_rf rv sp rr w nw)) 2 rfl ?_
                                        refine mm_T.call (t := 236) (as := [(.int 1)]) (f' := (231, [some (.int x0), some (.int x1), some (.int x2)], [])) rfl (tX12_truth (d + 0) 1 I J rv sp rr w nw _ rfl) (fun v h hq => ?_)
                                        obtain ⟨rfl, rfl⟩ := hq
                                        cases e
                                        exact mm_T.ret rfl ⟨rfl, rfl⟩
                                    · rw [if_neg h282] at e
                                      by_cases h285 : x0 = 55
                                      · rw [if_pos h285] at e
                                        refine mm_T.step (f' := (215, [some (.int x0), some (.int x1), some (.int x2)], [])) (h' := (107, I, J, mm_rf rv sp rr w nw)) (by rw [h285]; rfl) ?_
                                        refine mm_T.seg (f' := (216, [some (.int x0), some (.int x1), some (.int x2)], [(.int x1)])) (h' := (107, I, J, mm_rf rv sp rr w nw)) 1 rfl ?_
                                        refine mm_T.br (c := x1 = 0) (a := ((219, [some (.int x0), some (.int x1), some (.int x2)], []), (107, I, J, mm_rf rv sp rr w nw))) (b := ((223, [some (.int x0), some (.int x1), some (.int x2)], []), (107, I, J, mm_rf rv sp rr w nw))) rfl (fun h286 => ?_) (fun h286 => ?_)
                                        · rw [if_pos h286] at e
                                          refine mm_T.seg (f' := (220, [some (.int x0), some (.int x1), some (.int x2)], [(.int x2)])) (h' := (107, I, J, mm_rf rv sp rr w nw)) 1 rfl ?_
                                          refine mm_T.br (c := x2 = 0) (a := ((227, [some (.int x0), some (.int x1), some (.int x2)], []), (107, I, J, mm_rf rv sp rr w nw))) (b := ((223, [some (.int x0), some (.int x1), some (.int x2)], []), (107, I, J, mm_rf rv sp rr w nw))) rfl (fun h287 => ?_) (fun h287 => ?_)
                                          · rw [if_pos h287] at e
                                            refine mm_T.seg (f' := (228, [some (.int x0), some (.int x1), some (.int x2)], [(.int 0)])) (h' := (107, I, J, mm_rf rv sp rr w nw)) 1 rfl ?_
                                            refine mm_T.call (t := 236) (as := [(.int 0)]) (f' := (231, [some (.int x0), some (.int x1), some (.int x2)], [])) rfl (tX12_truth (d + 0) 0 I J rv sp rr w nw _ rfl) (fun v h hq => ?_)
                                            obtain ⟨rfl, rfl⟩ := hq
                                            cases e
                                            exact mm_T.ret rfl ⟨rfl, rfl⟩
                                          · rw [if_neg h287] at e
                                            refine mm_T.seg (f' := (228, [some (.int x0), some (.int x1), some (.int x2)], [(.int 1)])) (h' := (107, I, J, mm_rf rv sp rr w nw)) 2 rfl ?_
                                            refine mm_T.call (t := 236) (as := [(.int 1)]) (f' := (231, [some (.int x0), some (.int x1), some (.int x2)], [])) rfl (tX12_truth (d + 0) 1 I J rv sp rr w nw _ rfl) (fun v h hq => ?_)
                                            obtain ⟨rfl, rfl⟩ := hq
                                            cases e
                                            exact mm_T.ret rfl ⟨rfl, rfl⟩
                                        · rw [if_neg h286] at e
                                          refine mm_T.seg (f' := (228, [some (.int x0), some (.int x1), some (.int x2)], [(.int 1)])) (h' := (107, I, J, mm_rf rv sp rr w nw)) 2 rfl ?_
                                          refine mm_T.call (t := 236) (as := [(.int 1)]) (f' := (231, [some (.int x0), some (.int x1), some (.int x2)], [])) rfl (tX12_truth (d + 0) 1 I J rv sp rr w nw _ rfl) (fun v h hq => ?_)
                                          obtain ⟨rfl, rfl⟩ := hq
                                          cases e
                                          exact mm_T.ret rfl ⟨rfl, rfl⟩
                                      · rw [if_neg h285] at e
                                        by_cases h288 : x0 = 56
                                        · rw [if_pos h288] at e
                                          refine mm_T.step (f' := (215, [some (.int x0), some (.int x1), some (.int x2)], [])) (h' := (107, I, J, mm_rf rv sp rr w nw)) (by rw [h288]; rfl) ?_
                                          refine mm_T.seg (f' := (216, [some (.int x0), some (.int x1), some (.int x2)], [(.int x1)])) (h' := (107, I, J, mm_rf rv sp rr w nw)) 1 rfl ?_
                                          refine mm_T.br (c := x1 = 0) (a := ((219, [some (.int x0), some (.int x1), some (.int x2)], []), (107, I, J, mm_rf rv sp rr w nw))) (b := ((223, [some (.int x0), some (.int x1), some (.int x2)], []), (107, I, J, mm_rf rv sp rr w nw))) rfl (fun h289 => ?_) (fun h289 => ?_)
                                          · rw [if_pos h289] at e
                                            refine mm_T.seg (f' := (220, [some (.int x0), some (.int x1), some (.int x2)], [(.int x2)])) (h' := (107, I, J, mm_rf rv sp rr w nw)) 1 rfl ?_
                                            refine mm_T.br (c := x2 = 0) (a := ((227, [some (.int x0), some (.int x1), some (.int x2)], []), (107, I, J, mm_rf rv sp rr w nw))) (b := ((223, [some (.int x0), some (.int x1), some (.int x2)], []), (107, I, J, mm_rf rv sp rr w nw))) rfl (fun h290 => ?_) (fun h290 => ?_)
                                            · rw [if_pos h290] at e
                                              refine mm_T.seg (f' := (228, [some (.int x0), some (.int x1), some (.int x2)], [(.int 0)])) (h' := (107, I, J, mm_rf rv sp rr w nw)) 1 rfl ?_
                                              refine mm_T.call (t := 236) (as := [(.int 0)]) (f' := (231, [some (.int x0), some (.int x1), some (.int x2)], [])) rfl (tX12_truth (d + 0) 0 I J rv sp rr w nw _ rfl) (fun v h hq => ?_)
                                              obtain ⟨rfl, rfl⟩ := hq
                                              cases e
                                              exact mm_T.ret rfl ⟨rfl, rfl⟩
                                            · rw [if_neg h290] at e
                                              refine mm_T.seg (f' := (228, [some (.int x0), some (.int x1), some (.int x2)], [(.int 1)])) (h' := (107, I, J, mm_rf rv sp rr w nw)) 2 rfl ?_
                                              refine mm_T.call (t := 236) (as := [(.int 1)]) (f' := (231, [some (.int x0), some (.int x1), some (.int x2)], [])) rfl (tX12_truth (d + 0) 1 I J rv sp rr w nw _ rfl) (fun v h hq => ?_)
                                              obtain ⟨rfl, rfl⟩ := hq
                                              cases e
                                              exact mm_T.ret rfl ⟨rfl, rfl⟩
                                          · rw [if_neg h289] at e
                                            refine mm_T.seg (f' := (228, [some (.int x0), some (.int x1), some (.int x2)], [(.int 1)])) (h' := (107, I, J, mm_rf rv sp rr w nw)) 2 rfl ?_
                                            refine mm_T.call (t := 236) (as := [(.int 1)]) (f' := (231, [some (.int x0), some (.int x1), some (.int x2)], [])) rfl (tX12_truth (d + 0) 1 I J rv sp rr w nw _ rfl) (fun v h hq => ?_)
                                            obtain ⟨rfl, rfl⟩ := hq
                                            cases e
                                            exact mm_T.ret rfl ⟨rfl, rfl⟩
                                        · rw [if_neg h288] at e
                                          by_cases h291 : x0 = 57
                                          · rw [if_pos h291] at e
                                            refine mm_T.step (f' := (215, [some (.int x0), some (.int x1), some (.int x2)], [])) (h' := (107, I, J, mm_rf rv sp rr w nw)) (by rw [h291]; rfl) ?_
                                            refine mm_T.seg (f' := (216, [some (.int x0), some (.int x1), some (.int x2)], [(.int x1)])) (h' := (107, I, J, mm_rf rv sp rr w nw)) 1 rfl ?_
                                            refine mm_T.br (c := x1 = 0) (a := ((219, [some (.int x0), some (.int x1), some (.int x2)], []), (107, I, J, mm_rf rv sp rr w nw))) (b := ((223, [some (.int x0), some (.int x1), some (.int x2)], []), (107, I, J, mm_rf rv sp rr w nw))) rfl (fun h292 => ?_) (fun h292 => ?_)
                                            · rw [if_pos h292] at e
                                              refine mm_T.seg (f' := (220, [some (.int x0), some (.int x1), some (.int x2)], [(.int x2)])) (h' := (107, I, J, mm_rf rv sp rr w nw)) 1 rfl ?_
                                              refine mm_T.br (c := x2 = 0) (a := ((227, [some (.int x0), some (.int x1), some (.int x2)], []), (107, I, J, mm_rf rv sp rr w nw))) (b := ((223, [some (.int x0), some (.int x1), some (.int x2)], []), (107, I, J, mm_rf rv sp rr w nw))) rfl (fun h293 => ?_) (fun h293 => ?_)
                                              · rw [if_pos h293] at e
                                                refine mm_T.seg (f' := (228, [some (.int x0), some (.int x1), some (.int x2)], [(.int 0)])) (h' := (107, I, J, mm_rf rv sp rr w nw)) 1 rfl ?_
                                                refine mm_T.call (t := 236) (as := [(.int 0)]) (f' := (231, [some (.int x0), some (.int x1), some (.int x2)], [])) rfl (tX12_truth (d + 0) 0 I J rv sp rr w nw _ rfl) (fun v h hq => ?_)
                                                obtain ⟨rfl, rfl⟩ := hq
                                                cases e
                                                exact mm_T.ret rfl ⟨rfl, rfl⟩
                                              · rw [if_neg h293] at e
                                                refine mm_T.seg (f' := (228, [some (.int x0), some (.int x1), some (.int x2)], [(.int 1)])) (h' := (107, I, J, mm_rf rv sp rr w nw)) 2 rfl ?_
                                                refine mm_T.call (t := 236) (as := [(.int 1)]) (f' := (231, [some (.int x0), some (.int x1), some (.int x2)], [])) rfl (tX12_truth (d + 0) 1 I J rv sp rr w nw _ rfl) (fun v h hq => ?_)
                                                obtain ⟨rfl, rfl⟩ := hq
                                                cases e
                                                exact mm_T.ret rfl ⟨rfl, rfl⟩
                                            · rw [if_neg h292] at e
                                              refine mm_T.seg (f' := (228, [some (.int x0), some (.int x1), some (.int x2)], [(.int 1)])) (h' := (107, I, J, mm_rf rv sp rr w nw)) 2 rfl ?_
                                              refine mm_T.call (t := 236) (as := [(.int 1)]) (f' := (231, [some (.int x0), some (.int x1), some (.int x2)], [])) rfl (tX12_truth (d + 0) 1 I J rv sp rr w nw _ rfl) (fun v h hq => ?_)
                                              obtain ⟨rfl, rfl⟩ := hq
                                              cases e
                                              exact mm_T.ret rfl ⟨rfl, rfl⟩
                                          · rw [if_neg h291] at e
                                            by_cases h294 : x0 = 58
                                            · rw [if_pos h294] at e
                                              refine mm_T.step (f' := (215, [some (.int x0), some (.int x1), some (.int x2)], [])) (h' := (107, I, J, mm_rf rv sp rr w nw)) (by rw [h294]; rfl) ?_
                                              refine mm_T.seg (f' := (216, [some (.int x0), some (.int x1), some (.int x2)], [(.int x1)])) (h' := (107, I, J, mm_rf rv sp rr w nw)) 1 rfl ?_
                                              refine mm_T.br (c := x1 = 0) (a := ((219, [some (.int x0), some (.int x1), some (.int x2)], []), (107, I, J, mm_rf rv sp rr w nw))) (b := ((223, [some (.int x0), some (.int x1), some (.int x2)], []), (107, I, J, mm_rf rv sp rr w nw))) rfl (fun h295 => ?_) (fun h295 => ?_)
                                              · rw [if_pos h295] at e
                                                refine mm_T.seg (f' := (220, [some (.int x0), some (.int x1), some (.int x2)], [(.int x2)])) (h' := (107, I, J, mm_rf rv sp rr w nw)) 1 rfl ?_
                                                refine mm_T.br (c := x2 = 0) (a := ((227, [some (.int x0), some (.int x1), some (.int x2)], []), (107, I, J, mm_rf rv sp rr w nw))) (b := ((223, [some (.int x0), some (.int x1), some (.int x2)], []), (107, I, J, mm_rf rv sp rr w nw))) rfl (fun h296 => ?_) (fun h296 => ?_)
                                                · rw [if_pos h296] at e
                                                  refine mm_T.seg (f' := (228, [some (.int x0), some (.int x1), some (.int x2)], [(.int 0)])) (h' := (107, I, J, mm_rf rv sp rr w nw)) 1 rfl ?_
                                                  refine mm_T.call (t := 236) (as := [(.int 0)]) (f' := (231, [some (.int x0), some (.int x1), some (.int x2)], [])) rfl (tX12_truth (d + 0) 0 I J rv sp rr w nw _ rfl) (fun v h hq => ?_)
                                                  obtain ⟨rfl, rfl⟩ := hq
                                                  cases e
                                                  exact mm_T.ret rfl ⟨rfl, rfl⟩
                                                · rw [if_neg h296] at e
                                                  refine mm_T.seg (f' := (228, [some (.int x0), some (.int x1), some (.int x2)], [(.int 1)])) (h' := (107, I, J, mm_rf rv sp rr w nw)) 2 rfl ?_
                                                  refine mm_T.call (t := 236) (as := [(.int 1)]) (f' := (231, [some (.int x0), some (.int x1), some (.int x2)], [])) rfl (tX12_truth (d + 0) 1 I J rv sp rr w nw _ rfl) (fun v h hq => ?_)
                                                  obtain ⟨rfl, rfl⟩ := hq
                                                  cases e
                                                  exact mm_T.ret rfl ⟨rfl, rfl⟩
                                              · rw [if_neg h295] at e
                                                refine mm_T.seg (f' := (228, [some (.int x0), some (.int x1), some (.int x2)], [(.int 1)])) (h' := (107, I, J, mm_rf rv sp rr w nw)) 2 rfl ?_
                                                refine mm_T.call (t := 236) (as := [(.int 1)]) (f' := (231, [some (.int x0), some (.int x1), some (.int x2)], [])) rfl (tX12_truth (d + 0) 1 I J rv sp rr w nw _ rfl) (fun v h hq => ?_)
                                                obtain ⟨rfl, rfl⟩ := hq
                                                cases e
                                                exact mm_T.ret rfl ⟨rfl, rfl⟩
                                            · rw [if_neg h294] at e
                                              by_cases h297 : x0 = 59
                                              · rw [if_pos h297] at e
                                                refine mm_T.step (f' := (215, [some (.int x0), some (.int x1), some (.int x2)], [])) (h' := (107, I, J, mm_rf rv sp rr w nw)) (by rw [h297]; rfl) ?_
                                                refine mm_T.seg (f' := (216, [some (.int x0), some (.int x1), some (.int x2)], [(.int x1)])) (h' := (107, I, J, mm_rf rv sp rr w nw)) 1 rfl ?_
                                                refine mm_T.br (c := x1 = 0) (a := ((219, [some (.int x0), some (.int x1), some (.int x2)], []), (107, I, J, mm_rf rv sp rr w nw))) (b := ((223, [some (.int x0), some (.int x1), some (.int x2)], []), (107, I, J, mm_rf rv sp rr w nw))) rfl (fun h298 => ?_) (fun h298 => ?_)
                                                · rw [if_pos h298] at e
                                                  refine mm_T.seg (f' := (220, [some (.int x0), some (.int x1), some (.int x2)], [(.int x2)])) (h' := (107, I, J, mm_rf rv sp rr w nw)) 1 rfl ?_
                                                  refine mm_T.br (c := x2 = 0) (a := ((227, [some (.int x0), some (.int x1), some (.int x2)], []), (107, I, J, mm_rf rv sp rr w nw))) (b := ((223, [some (.int x0), some (.int x1), some (.int x2)], []), (107, I, J, mm_rf rv sp rr w nw))) rfl (fun h299 => ?_) (fun h299 => ?_)
                                                  · rw [if_pos h299] at e
                                                    refine mm_T.seg (f' := (228, [some (.int x0), some (.int x1), some (.int x2)], [(.int 0)])) (h' := (107, I, J, mm_rf rv sp rr w nw)) 1 rfl ?_
                                                    refine mm_T.call (t := 236) (as := [(.int 0)]) (f' := (231, [some (.int x0), some (.int x1), some (.int x2)], [])) rfl (tX12_truth (d + 0) 0 I J rv sp rr w nw _ rfl) (fun v h hq => ?_)
                                                    obtain ⟨rfl, rfl⟩ := hq
                                                    cases e
                                                    exact mm_T.ret rfl ⟨rfl, rfl⟩
                                                  · rw [if_neg h299] at e
                                                    refine mm_T.seg (f' := (228, [some (.int x0), some (.int x1), some (.int x2)], [(.int 1)])) (h' := (107, I, J, mm_rf rv sp rr w nw)) 2 rfl ?_
                                                    refine mm_T.call (t := 236) (as := [(.int 1)]) (f' := (231, [some (.int x0), some (.int x1), some (.int x2)], [])) rfl (tX12_truth (d + 0) 1 I J rv sp rr w nw _ rfl) (fun v h hq => ?_)
                                                    obtain ⟨rfl, rfl⟩ := hq
                                                    cases e
                                                    exact mm_T.ret rfl ⟨rfl, rfl⟩
                                                · rw [if_neg h298] at e
                                                  refine mm_T.seg (f' := (228, [some (.int x0), some (.int x1), some (.int x2)], [(.int 1)])) (h' := (107, I, J, mm_rf rv sp rr w nw)) 2 rfl ?_
                                                  refine mm_T.call (t := 236) (as := [(.int 1)]) (f' := (231, [some (.int x0), some (.int x1), some (.int x2)], [])) rfl (tX12_truth (d + 0) 1 I J rv sp rr w nw _ rfl) (fun v h hq => ?_)
                                                  obtain ⟨rfl, rfl⟩ := hq
                                                  cases e
                                                  exact mm_T.ret rfl ⟨rfl, rfl⟩
                                              · rw [if_neg h297] at e
                                                by_cases h300 : x0 = 60
                                                · rw [if_pos h300] at e
                                                  refine mm_T.step (f' := (156, [some (.int x0), some (.int x1), some (.int x2)], [])) (h' := (107, I, J, mm_rf rv sp rr w nw)) (by rw [h300]; rfl) ?_
                                                  refine mm_T.seg (f' := (158, [some (.int x0), some (.int x1), some (.int x2)], [(.int x2), (.int x1)])) (h' := (107, I, J, mm_rf rv sp rr w nw)) 2 rfl ?_
                                                  refine mm_T.br (c := x1 < x2) (a := ((161, [some (.int x0), some (.int x1), some (.int x2)], []), (107, I, J, mm_rf rv sp rr w nw))) (b := ((165, [some (.int x0), some (.int x1), some (.int x2)], []), (107, I, J, mm_rf rv sp rr w nw))) rfl (fun h301 => ?_) (fun h301 => ?_)
                                                  · rw [if_pos h301] at e
                                                    refine mm_T.seg (f' := (166, [some (.int x0), some (.int x1), some (.int x2)], [(.int 1)])) (h' := (107, I, J, mm_rf rv sp rr w nw)) 2 rfl ?_
                                                    refine mm_T.call (t := 236) (as := [(.int 1)]) (f' := (169, [some (.int x0), some (.int x1), some (.int x2)], [])) rfl (tX12_truth (d + 0) 1 I J rv sp rr w nw _ rfl) (fun v h hq => ?_)
                                                    obtain ⟨rfl, rfl⟩ := hq
                                                    cases e
                                                    exact mm_T.ret rfl ⟨rfl, rfl⟩
                                                  · rw [if_neg h301] at e
                                                    refine mm_T.seg (f' := (166, [some (.int x0), some (.int x1), some (.int x2)], [(.int 0)])) (h' := (107, I, J, mm_rf rv sp rr w nw)) 1 rfl ?_
                                                    refine mm_T.call (t := 236) (as := [(.int 0)]) (f' := (169, [some (.int x0), some (.int x1), some (.int x2)], [])) rfl (tX12_truth (d + 0) 0 I J rv sp rr w nw _ rfl) (fun v h hq => ?_)
                                                    obtain ⟨rfl, rfl⟩ := hq
                                                    cases e
                                                    exact mm_T.ret rfl ⟨rfl, rfl⟩
                                                · rw [if_neg h300] at e
                                                  by_cases h302 : x0 = 61
                                                  · rw [if_pos h302] at e
                                                    refine mm_T.step (f' := (184, [some (.int x0), some (.int x1), some (.int x2)], [])) (h' := (107, I, J, mm_rf rv sp rr w nw)) (by rw [h302]; rfl) ?_
                                                    refine mm_T.seg (f' := (186, [some (.int x0), some (.int x1), some (.int x2)], [(.int x2), (.int x1)])) (h' := (107, I, J, mm_rf rv sp rr w nw)) 2 rfl ?_
                                                    refine mm_T.br (c := x1 = x2) (a := ((189, [some (.int x0), some (.int x1), some (.int x2)], []), (107, I, J, mm_rf rv sp rr w nw))) (b := ((193, [some (.int x0), some (.int x1), some (.int x2)], []), (107, I, J, mm_rf rv sp rr w nw))) rfl (fun h303 => ?_) (fun h303 => ?_)
                                                    · rw [if_pos h303] at e
                                                      refine mm_T.seg (f' := (194, [some (.int x0), some (.int x1), some (.int x2)], [(.int 1)])) (h' := (107, I, J, mm_rf rv sp rr w nw)) 2 rfl ?_
                                                      refine mm_T.call (t := 236) (as := [(.int 1)]) (f' := (197, [some (.int x0), some (.int x1), some (.int x2)], [])) rfl (tX12_truth (d + 0) 1 I J rv sp rr w nw _ rfl) (fun v h hq => ?_)
                                                      obtain ⟨rfl, rfl⟩ := hq
                                                      cases e
                                                      exact mm_T.ret rfl ⟨rfl, rfl⟩
                                                    · rw [if_neg h303] at e
                                                      refine mm_T.seg (f' := (194, [some (.int x0), some (.int x1), some (.int x2)], [(.int 0)])) (h' := (107, I, J, mm_rf rv sp rr w nw)) 1 rfl ?_
                                                      refine mm_T.call (t := 236) (as := [(.int 0)]) (f' := (197, [some (.int x0), some (.int x1), some (.int x2)], [])) rfl (tX12_truth (d + 0) 0 I J rv sp rr w nw _ rfl) (fun v h hq => ?_)
                                                      obtain ⟨rfl, rfl⟩ := hq
                                                      cases e
                                                      exact mm_T.ret rfl ⟨rfl, rfl⟩
                                                  · rw [if_neg h302] at e
                                                    by_cases h304 : x0 = 62
                                                    · rw [if_pos h304] at e
                                                      refine mm_T.step (f' := (170, [some (.int x0), some (.int x1), some (.int x2)], [])) (h' := (107, I, J, mm_rf rv sp rr w nw)) (by rw [h304]; rfl) ?_
                                                      refine mm_T.seg (f' := (172, [some (.int x0), some (.int x1), some (.int x2)], [(.int x2), (.int x1)])) (h' := (107, I, J, mm_rf rv sp rr w nw)) 2 rfl ?_
                                                      refine mm_T.br (c := x2 < x1) (a := ((175, [some (.int x0), some (.int x1), some (.int x2)], []), (107, I, J, mm_rf rv sp rr w nw))) (b := ((179, [some (.int x0), some (.int x1), some (.int x2)], []), (107, I, J, mm_rf rv sp rr w nw))) rfl (fun h305 => ?_) (fun h305 => ?_)
                                                      · rw [if_pos h305] at e
                                                        refine mm_T.seg (f' := (180, [some (.int x0), some (.int x1), some (.int x2)], [(.int 1)])) (h' := (107, I, J, mm_rf rv sp rr w nw)) 2 rfl ?_
                                                        refine mm_T.call (t := 236) (as := [(.int 1)]) (f' := (183, [some (.int x0), some (.int x1), some (.int x2)], [])) rfl (tX12_truth (d + 0) 1 I J rv sp rr w nw _ rfl) (fun v h hq => ?_)
                                                        obtain ⟨rfl, rfl⟩ := hq
                                                        cases e
                                                        exact mm_T.ret rfl ⟨rfl, rfl⟩
                                                      · rw [if_neg h305] at e
                                                        refine mm_T.seg (f' := (180, [some (.int x0), some (.int x1), some (.int x2)], [(.int 0)])) (h' := (107, I, J, mm_rf rv sp rr w nw)) 1 rfl ?_
                                                        refine mm_T.call (t := 236) (as := [(.int 0)]) (f' := (183, [some (.int x0), some (.int x1), some (.int x2)], [])) rfl (tX12_truth (d + 0) 0 I J rv sp rr w nw _ rfl) (fun v h hq => ?_)
                                                        obtain ⟨rfl, rfl⟩ := hq
                                                        cases e
                                                        exact mm_T.ret rfl ⟨rfl, rfl⟩
                                                    · rw [if_neg h304] at e
                                                      refine mm_T.tabs (lo := 37) (hi := 62) (y := ((215, [some (.int x0), some (.int x1), some (.int x2)], []), (107, I, J, mm_rf rv sp rr w nw))) rfl (mm_swo 37 62 x0 [37, 38, 39, 40, 41, 42, 43, 44, 45, 46, 47, 48, 49, 50, 51, 52, 53, 54, 55, 56, 57, 58, 59, 60, 61, 62] (by decide) (by intro z hz; simp only [List.mem_cons, List.not_mem_nil, or_false] at hz; rcases hz with rfl | rfl | rfl | rfl | rfl | rfl | rfl | rfl | rfl | rfl | rfl | rfl | rfl | rfl | rfl | rfl | rfl | rfl | rfl | rfl | rfl | rfl | rfl | rfl | rfl | rfl <;> assumption)) ?_
                                                      refine mm_T.seg (f' := (216, [some (.int x0), some (.int x1), some (.int x2)], [(.int x1)])) (h' := (107, I, J, mm_rf rv sp rr w nw)) 1 rfl ?_
                                                      refine mm_T.br (c := x1 = 0) (a := ((219, [some (.int x0), some (.int x1), some (.int x2)], []), (107, I, J, mm_rf rv sp rr w nw))) (b := ((223, [some (.int x0), some (.int x1), some (.int x2)], []), (107, I, J, mm_rf rv sp rr w nw))) rfl (fun h306 => ?_) (fun h306 => ?_)
                                                      · rw [if_pos h306] at e
                                                        refine mm_T.seg (f' := (220, [some (.int x0), some (.int x1), some (.int x2)], [(.int x2)])) (h' := (107, I, J, mm_rf rv sp rr w nw)) 1 rfl ?_
                                                        refine mm_T.br (c := x2 = 0) (a := ((227, [some (.int x0), some (.int x1), some (.int x2)], []), (107, I, J, mm_rf rv sp rr w nw))) (b := ((223, [some (.int x0), some (.int x1), some (.int x2)], []), (107, I, J, mm_rf rv sp rr w nw))) rfl (fun h307 => ?_) (fun h307 => ?_)
                                                        · rw [if_pos h307] at e
                                                          refine mm_T.seg (f' := (228, [some (.int x0), some (.int x1), some (.int x2)], [(.int 0)])) (h' := (107, I, J, mm_rf rv sp rr w nw)) 1 rfl ?_
                                                          refine mm_T.call (t := 236) (as := [(.int 0)]) (f' := (231, [some (.int x0), some (.int x1), some (.int x2)], [])) rfl (tX12_truth (d + 0) 0 I J rv sp rr w nw _ rfl) (fun v h hq => ?_)
                                                          obtain ⟨rfl, rfl⟩ := hq
                                                          cases e
                                                          exact mm_T.ret rfl ⟨rfl, rfl⟩
                                                        · rw [if_neg h307] at e
                                                          refine mm_T.seg (f' := (228, [some (.int x0), some (.int x1), some (.int x2)], [(.int 1)])) (h' := (107, I, J, mm_rf rv sp rr w nw)) 2 rfl ?_
                                                          refine mm_T.call (t := 236) (as := [(.int 1)]) (f' := (231, [some (.int x0), some (.int x1), some (.int x2)], [])) rfl (tX12_truth (d + 0) 1 I J rv sp rr w nw _ rfl) (fun v h hq => ?_)
                                                          obtain ⟨rfl, rfl⟩ := hq
                                                          cases e
                                                          exact mm_T.ret rfl ⟨rfl, rfl⟩
                                                      · rw [if_neg h306] at e
                                                        refine mm_T.seg (f' := (228, [some (.int x0), some (.int x1), some (.int x2)], [(.int 1)])) (h' := (107, I, J, mm_rf rv sp rr w nw)) 2 rfl ?_
                                                        refine mm_T.call (t := 236) (as := [(.int 1)]) (f' := (231, [some (.int x0), some (.int x1), some (.int x2)], [])) rfl (tX12_truth (d + 0) 1 I J rv sp rr w nw _ rfl) (fun v h hq => ?_)
                                                        obtain ⟨rfl, rfl⟩ := hq
                                                        cases e
                                                        exact mm_T.ret rfl ⟨rfl, rfl⟩
