set_option maxRecDepth 100000 in
set_option maxHeartbeats 4000000 in
theorem tX12_mayNot (d : Nat) (I : Nat → Nat → Int32) (J : Nat → Nat → Int64) (rv sp rr w nw : Nat) (out : Int32) (e : fX12_mayNot I = some out) : mm_T none (d + 1) 227 (mm_ent 227 [(.ref 62)]) (107, I, J, mm_rf rv sp rr w nw) (fun v h => v = some (.int out) ∧ h = (107, I, J, mm_rf rv sp rr w nw)) := by
  unfold fX12_mayNot at e
  refine mm_T.seg (f' := (4, [some (.ref 62)], [(.int (I 62 19))])) (h' := (107, I, J, mm_rf rv sp rr w nw)) 2 rfl ?_
  refine mm_T.br (c := (I 62 19) = 0) (a := ((41, [some (.ref 62)], []), (107, I, J, mm_rf rv sp rr w nw))) (b := ((7, [some (.ref 62)], []), (107, I, J, mm_rf rv sp rr w nw))) rfl (fun h145 => ?_) (fun h145 => ?_)
  · rw [if_pos h145] at e
    refine mm_T.seg (f' := (46, [some (.ref 62)], [(.int 1)])) (h' := (107, I, J, mm_rf rv sp rr w nw)) 2 rfl ?_
    cases e
    exact mm_T.ret rfl ⟨rfl, rfl⟩
  · rw [if_neg h145] at e
    refine mm_T.seg (f' := (11, [some (.ref 62)], [(.ref 69)])) (h' := (107, I, J, mm_rf rv sp rr w nw)) 2 rfl ?_
    refine mm_T.seg (f' := (17, [some (.ref 62)], [(.int ((I 62 19) - 1)), (.ref 69)])) (h' := (107, I, J, mm_rf rv sp rr w nw)) 4 rfl ?_
    by_cases h146 : ((I 62 19) - 1) < 0 ∨ 160 ≤ ((I 62 19) - 1).toNatClampNeg
    · rw [if_pos h146] at e; cases e
    rw [if_neg h146] at e
    refine mm_T.guard (c := ((I 62 19) - 1) < 0 ∨ 160 ≤ ((I 62 19) - 1).toNatClampNeg) (y := ((18, [some (.ref 62)], [(.int (I 69 ((I 62 19) - 1).toNatClampNeg))]), (107, I, J, mm_rf rv sp rr w nw))) (mm_gen (P := fun z => mm_stp none 227 (17, [some (.ref 62)], [(.int z), (.ref 69)]) (107, I, J, mm_rf rv sp rr w nw) = if z < 0 ∨ 160 ≤ z.toNatClampNeg then none else some (.inl ((18, [some (.ref 62)], [(.int (I 69 z.toNatClampNeg))]), (107, I, J, mm_rf rv sp rr w nw)))) ((I 62 19) - 1) (fun z => rfl)) h146 ?_
    refine mm_T.seg (f' := (20, [some (.ref 62)], [(.int 20), (.int (I 69 ((I 62 19) - 1).toNatClampNeg))])) (h' := (107, I, J, mm_rf rv sp rr w nw)) 1 rfl ?_
    refine mm_T.br (c := (I 69 ((I 62 19) - 1).toNatClampNeg) = 20) (a := ((41, [some (.ref 62)], []), (107, I, J, mm_rf rv sp rr w nw))) (b := ((23, [some (.ref 62)], []), (107, I, J, mm_rf rv sp rr w nw))) rfl (fun h147 => ?_) (fun h147 => ?_)
    · rw [if_pos h147] at e
      refine mm_T.seg (f' := (46, [some (.ref 62)], [(.int 1)])) (h' := (107, I, J, mm_rf rv sp rr w nw)) 2 rfl ?_
      cases e
      exact mm_T.ret rfl ⟨rfl, rfl⟩
    · rw [if_neg h147] at e
      refine mm_T.seg (f' := (27, [some (.ref 62)], [(.ref 69)])) (h' := (107, I, J, mm_rf rv sp rr w nw)) 2 rfl ?_
      refine mm_T.seg (f' := (33, [some (.ref 62)], [(.int ((I 62 19) - 1)), (.ref 69)])) (h' := (107, I, J, mm_rf rv sp rr w nw)) 4 rfl ?_
      by_cases h148 : ((I 62 19) - 1) < 0 ∨ 160 ≤ ((I 62 19) - 1).toNatClampNeg
      · rw [if_pos h148] at e; cases e
      rw [if_neg h148] at e
      refine mm_T.guard (c := ((I 62 19) - 1) < 0 ∨ 160 ≤ ((I 62 19) - 1).toNatClampNeg) (y := ((34, [some (.ref 62)], [(.int (I 69 ((I 62 19) - 1).toNatClampNeg))]), (107, I, J, mm_rf rv sp rr w nw))) (mm_gen (P := fun z => mm_stp none 227 (33, [some (.ref 62)], [(.int z), (.ref 69)]) (107, I, J, mm_rf rv sp rr w nw) = if z < 0 ∨ 160 ≤ z.toNatClampNeg then none else some (.inl ((34, [some (.ref 62)], [(.int (I 69 z.toNatClampNeg))]), (107, I, J, mm_rf rv sp rr w nw)))) ((I 62 19) - 1) (fun z => rfl)) h148 ?_
      obtain ⟨g21, hg21⟩ : ∃ z, fX12_tight (I 69 ((I 62 19) - 1).toNatClampNeg) = z := ⟨_, rfl⟩
      try rw [hg21] at e
      refine mm_T.call (t := 224) (as := [(.int (I 69 ((I 62 19) - 1).toNatClampNeg))]) (f' := (37, [some (.ref 62)], [])) rfl (tX12_tight (d + 0) (I 69 ((I 62 19) - 1).toNatClampNeg) I J rv sp rr w nw g21 hg21) (fun v h hq => ?_)
      obtain ⟨rfl, rfl⟩ := hq
      refine mm_T.seg (f' := (38, [some (.ref 62)], [(.int 4), (.int g21)])) (h' := (107, I, J, mm_rf rv sp rr w nw)) 1 rfl ?_
      refine mm_T.br (c := g21 < 4) (a := ((41, [some (.ref 62)], []), (107, I, J, mm_rf rv sp rr w nw))) (b := ((45, [some (.ref 62)], []), (107, I, J, mm_rf rv sp rr w nw))) rfl (fun h149 => ?_) (fun h149 => ?_)
      · rw [if_pos h149] at e
        refine mm_T.seg (f' := (46, [some (.ref 62)], [(.int 1)])) (h' := (107, I, J, mm_rf rv sp rr w nw)) 2 rfl ?_
        cases e
        exact mm_T.ret rfl ⟨rfl, rfl⟩
      · rw [if_neg h149] at e
        refine mm_T.seg (f' := (46, [some (.ref 62)], [(.int 0)])) (h' := (107, I, J, mm_rf rv sp rr w nw)) 1 rfl ?_
        cases e
        exact mm_T.ret rfl ⟨rfl, rfl⟩
set_option maxRecDepth 100000 in
set_option maxHeartbeats 4000000 in
theorem tX12_asked (d : Nat) (I : Nat → Nat → Int32) (J : Nat → Nat → Int64) (rv sp rr w nw : Nat) (out : Int32) (e : fX12_asked I J = out) : mm_T none (d + 0) 228 (mm_ent 228 [(.ref 62)]) (107, I, J, mm_rf rv sp rr w nw) (fun v h => v = some (.int out) ∧ h = (107, I, J, mm_rf rv sp rr w nw)) := by
  unfold fX12_asked at e
  refine mm_T.seg (f' := (5, [some (.ref 62)], [(.int 1), (.int (I 62 6))])) (h' := (107, I, J, mm_rf rv sp rr w nw)) 3 rfl ?_
  refine mm_T.br (c := (I 62 6) = 1) (a := ((10, [some (.ref 62)], []), (107, I, J, mm_rf rv sp rr w nw))) (b := ((8, [some (.ref 62)], []), (107, I, J, mm_rf rv sp rr w nw))) rfl (fun h150 => ?_) (fun h150 => ?_)
  · rw [if_pos h150] at e
    refine mm_T.seg (f' := (18, [some (.ref 62)], [(.int (lg_cmp (J 62 9) 7499639))])) (h' := (107, I, J, mm_rf rv sp rr w nw)) 4 rfl ?_
    refine mm_T.br (c := (lg_cmp (J 62 9) 7499639) = 0) (a := ((21, [some (.ref 62)], []), (107, I, J, mm_rf rv sp rr w nw))) (b := ((23, [some (.ref 62)], []), (107, I, J, mm_rf rv sp rr w nw))) rfl (fun h151 => ?_) (fun h151 => ?_)
    · rw [if_pos h151] at e
      refine mm_T.seg (f' := (22, [some (.ref 62)], [(.int 0)])) (h' := (107, I, J, mm_rf rv sp rr w nw)) 1 rfl ?_
      cases e
      exact mm_T.ret rfl ⟨rfl, rfl⟩
    · rw [if_neg h151] at e
      refine mm_T.seg (f' := (31, [some (.ref 62)], [(.int (lg_cmp (J 62 9) 109330212154734))])) (h' := (107, I, J, mm_rf rv sp rr w nw)) 4 rfl ?_
      refine mm_T.br (c := (lg_cmp (J 62 9) 109330212154734) = 0) (a := ((34, [some (.ref 62)], []), (107, I, J, mm_rf rv sp rr w nw))) (b := ((36, [some (.ref 62)], []), (107, I, J, mm_rf rv sp rr w nw))) rfl (fun h152 => ?_) (fun h152 => ?_)
      · rw [if_pos h152] at e
        refine mm_T.seg (f' := (35, [some (.ref 62)], [(.int 1)])) (h' := (107, I, J, mm_rf rv sp rr w nw)) 1 rfl ?_
        cases e
        exact mm_T.ret rfl ⟨rfl, rfl⟩
      · rw [if_neg h152] at e
        refine mm_T.seg (f' := (44, [some (.ref 62)], [(.int (lg_cmp (J 62 9) 1819238756))])) (h' := (107, I, J, mm_rf rv sp rr w nw)) 4 rfl ?_
        refine mm_T.br (c := (lg_cmp (J 62 9) 1819238756) = 0) (a := ((47, [some (.ref 62)], []), (107, I, J, mm_rf rv sp rr w nw))) (b := ((49, [some (.ref 62)], []), (107, I, J, mm_rf rv sp rr w nw))) rfl (fun h153 => ?_) (fun h153 => ?_)
        · rw [if_pos h153] at e
          refine mm_T.seg (f' := (48, [some (.ref 62)], [(.int 2)])) (h' := (107, I, J, mm_rf rv sp rr w nw)) 1 rfl ?_
          cases e
          exact mm_T.ret rfl ⟨rfl, rfl⟩
        · rw [if_neg h153] at e
          refine mm_T.seg (f' := (57, [some (.ref 62)], [(.int (lg_cmp (J 62 9) 2003395685))])) (h' := (107, I, J, mm_rf rv sp rr w nw)) 4 rfl ?_
          refine mm_T.br (c := (lg_cmp (J 62 9) 2003395685) = 0) (a := ((60, [some (.ref 62)], []), (107, I, J, mm_rf rv sp rr w nw))) (b := ((62, [some (.ref 62)], []), (107, I, J, mm_rf rv sp rr w nw))) rfl (fun h154 => ?_) (fun h154 => ?_)
          · rw [if_pos h154] at e
            refine mm_T.seg (f' := (61, [some (.ref 62)], [(.int 3)])) (h' := (107, I, J, mm_rf rv sp rr w nw)) 1 rfl ?_
            cases e
            exact mm_T.ret rfl ⟨rfl, rfl⟩
          · rw [if_neg h154] at e
            refine mm_T.seg (f' := (70, [some (.ref 62)], [(.int (lg_cmp (J 62 9) 32497657166128499))])) (h' := (107, I, J, mm_rf rv sp rr w nw)) 4 rfl ?_
            refine mm_T.br (c := (lg_cmp (J 62 9) 32497657166128499) = 0) (a := ((73, [some (.ref 62)], []), (107, I, J, mm_rf rv sp rr w nw))) (b := ((75, [some (.ref 62)], []), (107, I, J, mm_rf rv sp rr w nw))) rfl (fun h155 => ?_) (fun h155 => ?_)
            · rw [if_pos h155] at e
              refine mm_T.seg (f' := (74, [some (.ref 62)], [(.int 4)])) (h' := (107, I, J, mm_rf rv sp rr w nw)) 1 rfl ?_
              cases e
              exact mm_T.ret rfl ⟨rfl, rfl⟩
            · rw [if_neg h155] at e
              refine mm_T.seg (f' := (83, [some (.ref 62)], [(.int (lg_cmp (J 62 9) 6844276))])) (h' := (107, I, J, mm_rf rv sp rr w nw)) 4 rfl ?_
              refine mm_T.br (c := (lg_cmp (J 62 9) 6844276) = 0) (a := ((86, [some (.ref 62)], []), (107, I, J, mm_rf rv sp rr w nw))) (b := ((90, [some (.ref 62)], []), (107, I, J, mm_rf rv sp rr w nw))) rfl (fun h156 => ?_) (fun h156 => ?_)
              · rw [if_pos h156] at e
                refine mm_T.seg (f' := (91, [some (.ref 62)], [(.int 5)])) (h' := (107, I, J, mm_rf rv sp rr w nw)) 2 rfl ?_
                cases e
                exact mm_T.ret rfl ⟨rfl, rfl⟩
              · rw [if_neg h156] at e
                refine mm_T.seg (f' := (91, [some (.ref 62)], [(.int (-1))])) (h' := (107, I, J, mm_rf rv sp rr w nw)) 1 rfl ?_
                cases e
                exact mm_T.ret rfl ⟨rfl, rfl⟩
  · rw [if_neg h150] at e
    refine mm_T.seg (f' := (9, [some (.ref 62)], [(.int (-1))])) (h' := (107, I, J, mm_rf rv sp rr w nw)) 1 rfl ?_
    cases e
    exact mm_T.ret rfl ⟨rfl, rfl⟩
set_option maxRecDepth 100000 in
set_option maxHeartbeats 4000000 in
theorem tX12_isFull (d : Nat) (I : Nat → Nat → Int32) (J : Nat → Nat → Int64) (rv sp rr w nw : Nat) (out : Int32) (e : fX12_isFull I = out) : mm_T none (d + 0) 229 (mm_ent 229 [(.ref 62)]) (107, I, J, mm_rf rv sp rr w nw) (fun v h => v = some (.int out) ∧ h = (107, I, J, mm_rf rv sp rr w nw)) := by
  unfold fX12_isFull at e
  refine mm_T.seg (f' := (6, [some (.ref 62)], [(.int 60), (.int (I 62 20))])) (h' := (107, I, J, mm_rf rv sp rr w nw)) 3 rfl ?_
  refine mm_T.br (c := (I 62 20) = 60) (a := ((18, [some (.ref 62)], []), (107, I, J, mm_rf rv sp rr w nw))) (b := ((9, [some (.ref 62)], []), (107, I, J, mm_rf rv sp rr w nw))) rfl (fun h157 => ?_) (fun h157 => ?_)
  · rw [if_pos h157] at e
    refine mm_T.seg (f' := (23, [some (.ref 62)], [(.int 1)])) (h' := (107, I, J, mm_rf rv sp rr w nw)) 2 rfl ?_
    cases e
    exact mm_T.ret rfl ⟨rfl, rfl⟩
  · rw [if_neg h157] at e
    refine mm_T.seg (f' := (15, [some (.ref 62)], [(.int 30), (.int (I 62 22))])) (h' := (107, I, J, mm_rf rv sp rr w nw)) 3 rfl ?_
    refine mm_T.br (c := (I 62 22) = 30) (a := ((18, [some (.ref 62)], []), (107, I, J, mm_rf rv sp rr w nw))) (b := ((22, [some (.ref 62)], []), (107, I, J, mm_rf rv sp rr w nw))) rfl (fun h158 => ?_) (fun h158 => ?_)
    · rw [if_pos h158] at e
      refine mm_T.seg (f' := (23, [some (.ref 62)], [(.int 1)])) (h' := (107, I, J, mm_rf rv sp rr w nw)) 2 rfl ?_
      cases e
      exact mm_T.ret rfl ⟨rfl, rfl⟩
    · rw [if_neg h158] at e
      refine mm_T.seg (f' := (23, [some (.ref 62)], [(.int 0)])) (h' := (107, I, J, mm_rf rv sp rr w nw)) 1 rfl ?_
      cases e
      exact mm_T.ret rfl ⟨rfl, rfl⟩
set_option maxRecDepth 100000 in
set_option maxHeartbeats 4000000 in
theorem tX12_countUnit (d : Nat) (I : Nat → Nat → Int32) (J : Nat → Nat → Int64) (rv sp rr w nw : Nat) (out : (Nat → Nat → Int32)) (e : fX12_countUnit I = out) : mm_T none (d + 0) 230 (mm_ent 230 [(.ref 62)]) (107, I, J, mm_rf rv sp rr w nw) (fun v h => v = none ∧ h = (107, out, J, mm_rf rv sp rr w nw)) := by
  unfold fX12_countUnit at e
  refine mm_T.seg (f' := (20, [some (.ref 62)], [])) (h' := (107, (mm_up (mm_up I 62 20 ((I 62 20) + 1)) 62 22 ((I 62 22) + 1)), J, mm_rf rv sp rr w nw)) 12 rfl ?_
  cases e
  exact mm_T.ret rfl ⟨rfl, rfl⟩
set_option maxRecDepth 100000 in
set_option maxHeartbeats 4000000 in
theorem tX12_openUp (d n : Nat) (x1 : Int32) (I : Nat → Nat → Int32) (J : Nat → Nat → Int64) (rv sp rr w nw : Nat) (out : (Nat → Nat → Int32) × (Nat → Nat → Int64)) (e : fX12_openUp n x1 I J = some out) : mm_T none (d + 2) 231 (mm_ent 231 [(.ref 62), (.int x1)]) (107, I, J, mm_rf rv sp rr w nw) (fun v h => v = none ∧ h = (107, out.1, out.2, mm_rf rv sp rr w nw)) := by
  unfold fX12_openUp at e
  refine mm_T.seg (f' := (4, [some (.ref 62), some (.int x1)], [(.ref 69)])) (h' := (107, I, J, mm_rf rv sp rr w nw)) 2 rfl ?_
  refine mm_T.seg (f' := (9, [some (.ref 62), some (.int x1)], [(.int x1), (.int (I 62 19)), (.ref 69)])) (h' := (107, I, J, mm_rf rv sp rr w nw)) 3 rfl ?_
  by_cases h159 : (I 62 19) < 0 ∨ 160 ≤ (I 62 19).toNatClampNeg
  · rw [if_pos h159] at e; cases e
  rw [if_neg h159] at e
  refine mm_T.guard (y := ((10, [some (.ref 62), some (.int x1)], []), (107, (mm_up I 69 (I 62 19).toNatClampNeg x1), J, mm_rf rv sp rr w nw))) rfl h159 ?_
  refine mm_T.seg (f' := (34, [some (.ref 62), some (.int x1)], [(.int (I 62 2))])) (h' := (107, (mm_up (mm_up (mm_up I 69 (I 62 19).toNatClampNeg x1) 62 19 ((I 62 19) + 1)) 62 23 ((I 62 23) + 1)), J, mm_rf rv sp rr w nw)) 14 rfl ?_
  refine mm_T.br (c := (I 62 2) = 0) (a := ((37, [some (.ref 62), some (.int x1)], []), (107, (mm_up (mm_up (mm_up I 69 (I 62 19).toNatClampNeg x1) 62 19 ((I 62 19) + 1)) 62 23 ((I 62 23) + 1)), J, mm_rf rv sp rr w nw))) (b := ((41, [some (.ref 62), some (.int x1)], []), (107, (mm_up (mm_up (mm_up I 69 (I 62 19).toNatClampNeg x1) 62 19 ((I 62 19) + 1)) 62 23 ((I 62 23) + 1)), J, mm_rf rv sp rr w nw))) rfl (fun h160 => ?_) (fun h160 => ?_)
  · rw [if_pos h160] at e
    refine mm_T.seg (f' := (38, [some (.ref 62), some (.int x1)], [(.ref 62)])) (h' := (107, (mm_up (mm_up (mm_up I 69 (I 62 19).toNatClampNeg x1) 62 19 ((I 62 19) + 1)) 62 23 ((I 62 23) + 1)), J, mm_rf rv sp rr w nw)) 1 rfl ?_
    obtain ⟨o161, eo161, e⟩ := mm_bind e
    refine mm_T.call (t := 214) (as := [(.ref 62)]) (f' := (41, [some (.ref 62), some (.int x1)], [])) rfl (tX12_token (d + 0) n (mm_up (mm_up (mm_up I 69 (I 62 19).toNatClampNeg x1) 62 19 ((I 62 19) + 1)) 62 23 ((I 62 23) + 1)) J rv sp rr w nw o161 eo161) (fun v h hq => ?_)
    obtain ⟨rfl, rfl⟩ := hq
    cases e
    exact mm_T.ret rfl ⟨rfl, rfl⟩
  · rw [if_neg h160] at e
    cases e
    exact mm_T.ret rfl ⟨rfl, rfl⟩
set_option maxRecDepth 100000 in
set_option maxHeartbeats 4000000 in
theorem tlX12_unit_L2 (d : Nat) (Q : Option Value → mm_H → Prop) : ∀ (n : Nat) (y1 : Int32) (I : Nat → Nat → Int32) (J : Nat → Nat → Int64) (rv sp rr w nw : Nat), ∀ (out : (Nat → Nat → Int32) × (Nat → Nat → Int64)), fX12_unit_L2 n y1 I J = some out → mm_T none (d + 3) 232 (101, [some (.ref 62), none, none], []) (107, out.1, out.2, mm_rf rv sp rr w nw) Q → mm_T none (d + 3) 232 (2, [some (.ref 62), some (.int y1), none], []) (107, I, J, mm_rf rv sp rr w nw) Q := by
  intro n
  induction n with
  | zero =>
    intro y1 I J rv sp rr w nw out e k
    rw [fX12_unit_L2] at e; cases e
  | succ n ih =>
    intro y1 I J rv sp rr w nw out e k
    rw [fX12_unit_L2] at e
    refine mm_T.seg (f' := (3, [some (.ref 62), some (.int y1), none], [(.int y1)])) (h' := (107, I, J, mm_rf rv sp rr w nw)) 1 rfl ?_
    refine mm_T.br (c := y1 = 0) (a := ((101, [some (.ref 62), some (.int y1), none], []), (107, I, J, mm_rf rv sp rr w nw))) (b := ((6, [some (.ref 62), some (.int y1), none], []), (107, I, J, mm_rf rv sp rr w nw))) rfl (fun h162 => ?_) (fun h162 => ?_)
    · rw [if_pos h162] at e
      cases e
      refine mm_T.mask [true, false, false] ?_
      exact k
    · rw [if_neg h162] at e
      refine mm_T.seg (f' := (10, [some (.ref 62), some (.int y1), none], [(.int (I 62 2))])) (h' := (107, I, J, mm_rf rv sp rr w nw)) 2 rfl ?_
      refine mm_T.br (c := (I 62 2) = 0) (a := ((13, [some (.ref 62), some (.int y1), none], []), (107, I, J, mm_rf rv sp rr w nw))) (b := ((101, [some (.ref 62), some (.int y1), none], []), (107, I, J, mm_rf rv sp rr w nw))) rfl (fun h163 => ?_) (fun h163 => ?_)
      · rw [if_pos h163] at e
        refine mm_T.seg (f' := (17, [some (.ref 62), some (.int y1), none], [(.long 7237492), (.ref 62)])) (h' := (107, I, J, mm_rf rv sp rr w nw)) 2 rfl ?_
        obtain ⟨g22, hg22⟩ : ∃ z, fX12_isWord 7237492 I J = z := ⟨_, rfl⟩
        try rw [hg22] at e
        refine mm_T.call (t := 216) (as := [(.ref 62), (.long 7237492)]) (f' := (20, [some (.ref 62), some (.int y1), none], [])) rfl (tX12_isWord (d + 2) 7237492 I J rv sp rr w nw g22 hg22) (fun v h hq => ?_)
        obtain ⟨rfl, rfl⟩ := hq
        refine mm_T.br (c := g22 = 0) (a := ((53, [some (.ref 62), some (.int y1), none], []), (107, I, J, mm_rf rv sp rr w nw))) (b := ((23, [some (.ref 62), some (.int y1), none], []), (107, I, J, mm_rf rv sp rr w nw))) rfl (fun h164 => ?_) (fun h164 => ?_)
        · rw [if_pos h164] at e
          refine mm_T.seg (f' := (59, [some (.ref 62), some (.int y1), none], [(.int 40), (.int (I 62 6))])) (h' := (107, I, J, mm_rf rv sp rr w nw)) 3 rfl ?_
          refine mm_T.br (c := (I 62 6) = 40) (a := ((62, [some (.ref 62), some (.int y1), none], []), (107, I, J, mm_rf rv sp rr w nw))) (b := ((96, [some (.ref 62), some (.int y1), none], []), (107, I, J, mm_rf rv sp rr w nw))) rfl (fun h165 => ?_) (fun h165 => ?_)
          · rw [if_pos h165] at e
            refine mm_T.seg (f' := (63, [some (.ref 62), some (.int y1), none], [(.ref 62)])) (h' := (107, I, J, mm_rf rv sp rr w nw)) 1 rfl ?_
            obtain ⟨g23, hg23⟩ : ∃ z, fX12_isFull I = z := ⟨_, rfl⟩
            try rw [hg23] at e
            refine mm_T.call (t := 229) (as := [(.ref 62)]) (f' := (66, [some (.ref 62), some (.int y1), none], [])) rfl (tX12_isFull (d + 2) I J rv sp rr w nw g23 hg23) (fun v h hq => ?_)
            obtain ⟨rfl, rfl⟩ := hq
            refine mm_T.br (c := g23 = 0) (a := ((69, [some (.ref 62), some (.int y1), none], []), (107, I, J, mm_rf rv sp rr w nw))) (b := ((78, [some (.ref 62), some (.int y1), none], []), (107, I, J, mm_rf rv sp rr w nw))) rfl (fun h166 => ?_) (fun h166 => ?_)
            · rw [if_pos h166] at e
              refine mm_T.seg (f' := (75, [some (.ref 62), some (.int y1), none], [(.int 6), (.int (I 62 23))])) (h' := (107, I, J, mm_rf rv sp rr w nw)) 3 rfl ?_
              refine mm_T.br (c := 6 < (I 62 23)) (a := ((78, [some (.ref 62), some (.int y1), none], []), (107, I, J, mm_rf rv sp rr w nw))) (b := ((83, [some (.ref 62), some (.int y1), none], []), (107, I, J, mm_rf rv sp rr w nw))) rfl (fun h167 => ?_) (fun h167 => ?_)
              · rw [if_pos h167] at e
                refine mm_T.seg (f' := (80, [some (.ref 62), some (.int y1), none], [(.int 2), (.ref 62)])) (h' := (107, I, J, mm_rf rv sp rr w nw)) 2 rfl ?_
                obtain ⟨g24, hg24⟩ : ∃ z, fX12_wrong 2 I = z := ⟨_, rfl⟩
                try rw [hg24] at e
                refine mm_T.call (t := 215) (as := [(.ref 62), (.int 2)]) (f' := (83, [some (.ref 62), some (.int y1), none], [])) rfl (tX12_wrong (d + 2) 2 I J rv sp rr w nw g24 hg24) (fun v h hq => ?_)
                obtain ⟨rfl, rfl⟩ := hq
                refine mm_T.seg (f' := (84, [some (.ref 62), some (.int y1), none], [(.ref 62)])) (h' := (107, g24, J, mm_rf rv sp rr w nw)) 1 rfl ?_
                obtain ⟨g25, hg25⟩ : ∃ z, fX12_countUnit g24 = z := ⟨_, rfl⟩
                try rw [hg25] at e
                refine mm_T.call (t := 230) (as := [(.ref 62)]) (f' := (87, [some (.ref 62), some (.int y1), none], [])) rfl (tX12_countUnit (d + 2) g24 J rv sp rr w nw g25 hg25) (fun v h hq => ?_)
                obtain ⟨rfl, rfl⟩ := hq
                refine mm_T.seg (f' := (90, [some (.ref 62), some (.int y1), none], [(.int 20), (.ref 62)])) (h' := (107, g25, J, mm_rf rv sp rr w nw)) 2 rfl ?_
                obtain ⟨o168, eo168, e⟩ := mm_bind e
                refine mm_T.call (t := 231) (as := [(.ref 62), (.int 20)]) (f' := (93, [some (.ref 62), some (.int y1), none], [])) rfl (tX12_openUp (d + 0) n 20 g25 J rv sp rr w nw o168 eo168) (fun v h hq => ?_)
                obtain ⟨rfl, rfl⟩ := hq
                refine mm_T.seg (f' := (2, [some (.ref 62), some (.int y1), none], [])) (h' := (107, o168.1, o168.2, mm_rf rv sp rr w nw)) 1 rfl ?_
                refine mm_T.mask [true, true, false] ?_
                exact ih y1 o168.1 o168.2 rv sp rr w nw out e k
              · rw [if_neg h167] at e
                refine mm_T.seg (f' := (84, [some (.ref 62), some (.int y1), none], [(.ref 62)])) (h' := (107, I, J, mm_rf rv sp rr w nw)) 1 rfl ?_
                obtain ⟨g26, hg26⟩ : ∃ z, fX12_countUnit I = z := ⟨_, rfl⟩
                try rw [hg26] at e
                refine mm_T.call (t := 230) (as := [(.ref 62)]) (f' := (87, [some (.ref 62), some (.int y1), none], [])) rfl (tX12_countUnit (d + 2) I J rv sp rr w nw g26 hg26) (fun v h hq => ?_)
                obtain ⟨rfl, rfl⟩ := hq
                refine mm_T.seg (f' := (90, [some (.ref 62), some (.int y1), none], [(.int 20), (.ref 62)])) (h' := (107, g26, J, mm_rf rv sp rr w nw)) 2 rfl ?_
                obtain ⟨o169, eo169, e⟩ := mm_bind e
                refine mm_T.call (t := 231) (as := [(.ref 62), (.int 20)]) (f' := (93, [some (.ref 62), some (.int y1), none], [])) rfl (tX12_openUp (d + 0) n 20 g26 J rv sp rr w nw o169 eo169) (fun v h hq => ?_)
                obtain ⟨rfl, rfl⟩ := hq
                refine mm_T.seg (f' := (2, [some (.ref 62), some (.int y1), none], [])) (h' := (107, o169.1, o169.2, mm_rf rv sp rr w nw)) 1 rfl ?_
                refine mm_T.mask [true, true, false] ?_
                exact ih y1 o169.1 o169.2 rv sp rr w nw out e k
            · rw [if_neg h166] at e
              refine mm_T.seg (f' := (80, [some (.ref 62), some (.int y1), none], [(.int 2), (.ref 62)])) (h' := (107, I, J, mm_rf rv sp rr w nw)) 2 rfl ?_
              obtain ⟨g27, hg27⟩ : ∃ z, fX12_wrong 2 I = z := ⟨_, rfl⟩
              try rw [hg27] at e
              refine mm_T.call (t := 215) (as := [(.ref 62), (.int 2)]) (f' := (83, [some (.ref 62), some (.int y1), none], [])) rfl (tX12_wrong (d + 2) 2 I J rv sp rr w nw g27 hg27) (fun v h hq => ?_)
              obtain ⟨rfl, rfl⟩ := hq
              refine mm_T.seg (f' := (84, [some (.ref 62), some (.int y1), none], [(.ref 62)])) (h' := (107, g27, J, mm_rf rv sp rr w nw)) 1 rfl ?_
              obtain ⟨g28, hg28⟩ : ∃ z, fX12_countUnit g27 = z := ⟨_, rfl⟩
              try rw [hg28] at e
              refine mm_T.call (t := 230) (as := [(.ref 62)]) (f' := (87, [some (.ref 62), some (.int y1), none], [])) rfl (tX12_countUnit (d + 2) g27 J rv sp rr w nw g28 hg28) (fun v h hq => ?_)
              obtain ⟨rfl, rfl⟩ := hq
              refine mm_T.seg (f' := (90, [some (.ref 62), some (.int y1), none], [(.int 20), (.ref 62)])) (h' := (107, g28, J, mm_rf rv sp rr w nw)) 2 rfl ?_
              obtain ⟨o170, eo170, e⟩ := mm_bind e
              refine mm_T.call (t := 231) (as := [(.ref 62), (.int 20)]) (f' := (93, [some (.ref 62), some (.int y1), none], [])) rfl (tX12_openUp (d + 0) n 20 g28 J rv sp rr w nw o170 eo170) (fun v h hq => ?_)
              obtain ⟨rfl, rfl⟩ := hq
              refine mm_T.seg (f' := (2, [some (.ref 62), some (.int y1), none], [])) (h' := (107, o170.1, o170.2, mm_rf rv sp rr w nw)) 1 rfl ?_
              refine mm_T.mask [true, true, false] ?_
              exact ih y1 o170.1 o170.2 rv sp rr w nw out e k
          · rw [if_neg h165] at e
            refine mm_T.seg (f' := (2, [some (.ref 62), some (.int 0), none], [])) (h' := (107, I, J, mm_rf rv sp rr w nw)) 3 rfl ?_
            refine mm_T.mask [true, true, false] ?_
            exact ih 0 I J rv sp rr w nw out e k
        · rw [if_neg h164] at e
          refine mm_T.seg (f' := (24, [some (.ref 62), some (.int y1), none], [(.ref 62)])) (h' := (107, I, J, mm_rf rv sp rr w nw)) 1 rfl ?_
          obtain ⟨o171, eo171, e⟩ := mm_bind e
          refine mm_T.call (t := 227) (as := [(.ref 62)]) (f' := (27, [some (.ref 62), some (.int y1), none], [])) rfl (tX12_mayNot (d + 1) I J rv sp rr w nw o171 eo171) (fun v h hq => ?_)
          obtain ⟨rfl, rfl⟩ := hq
          refine mm_T.br (c := o171 = 0) (a := ((53, [some (.ref 62), some (.int y1), none], []), (107, I, J, mm_rf rv sp rr w nw))) (b := ((30, [some (.ref 62), some (.int y1), none], []), (107, I, J, mm_rf rv sp rr w nw))) rfl (fun h172 => ?_) (fun h172 => ?_)
          · rw [if_pos h172] at e
            refine mm_T.seg (f' := (59, [some (.ref 62), some (.int y1), none], [(.int 40), (.int (I 62 6))])) (h' := (107, I, J, mm_rf rv sp rr w nw)) 3 rfl ?_
            refine mm_T.br (c := (I 62 6) = 40) (a := ((62, [some (.ref 62), some (.int y1), none], []), (107, I, J, mm_rf rv sp rr w nw))) (b := ((96, [some (.ref 62), some (.int y1), none], []), (107, I, J, mm_rf rv sp rr w nw))) rfl (fun h173 => ?_) (fun h173 => ?_)
            · rw [if_pos h173] at e
              refine mm_T.seg (f' := (63, [some (.ref 62), some (.int y1), none], [(.ref 62)])) (h' := (107, I, J, mm_rf rv sp rr w nw)) 1 rfl ?_
              obtain ⟨g29, hg29⟩ : ∃ z, fX12_isFull I = z := ⟨_, rfl⟩
              try rw [hg29] at e
              refine mm_T.call (t := 229) (as := [(.ref 62)]) (f' := (66, [some (.ref 62), some (.int y1), none], [])) rfl (tX12_isFull (d + 2) I J rv sp rr w nw g29 hg29) (fun v h hq => ?_)
              obtain ⟨rfl, rfl⟩ := hq
              refine mm_T.br (c := g29 = 0) (a := ((69, [some (.ref 62), some (.int y1), none], []), (107, I, J, mm_rf rv sp rr w nw))) (b := ((78, [some (.ref 62), some (.int y1), none], []), (107, I, J, mm_rf rv sp rr w nw))) rfl (fun h174 => ?_) (fun h174 => ?_)
              · rw [if_pos h174] at e
                refine mm_T.seg (f' := (75, [some (.ref 62), some (.int y1), none], [(.int 6), (.int (I 62 23))])) (h' := (107, I, J, mm_rf rv sp rr w nw)) 3 rfl ?_
                refine mm_T.br (c := 6 < (I 62 23)) (a := ((78, [some (.ref 62), some (.int y1), none], []), (107, I, J, mm_rf rv sp rr w nw))) (b := ((83, [some (.ref 62), some (.int y1), none], []), (107, I, J, mm_rf rv sp rr w nw))) rfl (fun h175 => ?_) (fun h175 => ?_)
                · rw [if_pos h175] at e
                  refine mm_T.seg (f' := (80, [some (.ref 62), some (.int y1), none], [(.int 2), (.ref 62)])) (h' := (107, I, J, mm_rf rv sp rr w nw)) 2 rfl ?_
                  obtain ⟨g30, hg30⟩ : ∃ z, fX12_wrong 2 I = z := ⟨_, rfl⟩
                  try rw [hg30] at e
                  refine mm_T.call (t := 215) (as := [(.ref 62), (.int 2)]) (f' := (83, [some (.ref 62), some (.int y1), none], [])) rfl (tX12_wrong (d + 2) 2 I J rv sp rr w nw g30 hg30) (fun v h hq => ?_)
                  obtain ⟨rfl, rfl⟩ := hq
                  refine mm_T.seg (f' := (84, [some (.ref 62), some (.int y1), none], [(.ref 62)])) (h' := (107, g30, J, mm_rf rv sp rr w nw)) 1 rfl ?_
                  obtain ⟨g31, hg31⟩ : ∃ z, fX12_countUnit g30 = z := ⟨_, rfl⟩
                  try rw [hg31] at e
                  refine mm_T.call (t := 230) (as := [(.ref 62)]) (f' := (87, [some (.ref 62), some (.int y1), none], [])) rfl (tX12_countUnit (d + 2) g30 J rv sp rr w nw g31 hg31) (fun v h hq => ?_)
                  obtain ⟨rfl, rfl⟩ := hq
                  refine mm_T.seg (f' := (90, [some (.ref 62), some (.int y1), none], [(.int 20), (.ref 62)])) (h' := (107, g31, J, mm_rf rv sp rr w nw)) 2 rfl ?_
                  obtain ⟨o176, eo176, e⟩ := mm_bind e
                  refine mm_T.call (t := 231) (as := [(.ref 62), (.int 20)]) (f' := (93, [some (.ref 62), some (.int y1), none], [])) rfl (tX12_openUp (d + 0) n 20 g31 J rv sp rr w nw o176 eo176) (fun v h hq => ?_)
                  obtain ⟨rfl, rfl⟩ := hq
                  refine mm_T.seg (f' := (2, [some (.ref 62), some (.int y1), none], [])) (h' := (107, o176.1, o176.2, mm_rf rv sp rr w nw)) 1 rfl ?_
                  refine mm_T.mask [true, true, false] ?_
                  exact ih y1 o176.1 o176.2 rv sp rr w nw out e k
                · rw [if_neg h175] at e
                  refine mm_T.seg (f' := (84, [some (.ref 62), some (.int y1), none], [(.ref 62)])) (h' := (107, I, J, mm_rf rv sp rr w nw)) 1 rfl ?_
                  obtain ⟨g32, hg32⟩ : ∃ z, fX12_countUnit I = z := ⟨_, rfl⟩
                  try rw [hg32] at e
                  refine mm_T.call (t := 230) (as := [(.ref 62)]) (f' := (87, [some (.ref 62), some (.int y1), none], [])) rfl (tX12_countUnit (d + 2) I J rv sp rr w nw g32 hg32) (fun v h hq => ?_)
                  obtain ⟨rfl, rfl⟩ := hq
                  refine mm_T.seg (f' := (90, [some (.ref 62), some (.int y1), none], [(.int 20), (.ref 62)])) (h' := (107, g32, J, mm_rf rv sp rr w nw)) 2 rfl ?_
                  obtain ⟨o177, eo177, e⟩ := mm_bind e
                  refine mm_T.call (t := 231) (as := [(.ref 62), (.int 20)]) (f' := (93, [some (.ref 62), some (.int y1), none], [])) rfl (tX12_openUp (d + 0) n 20 g32 J rv sp rr w nw o177 eo177) (fun v h hq => ?_)
                  obtain ⟨rfl, rfl⟩ := hq
                  refine mm_T.seg (f' := (2, [some (.ref 62), some (.int y1), none], [])) (h' := (107, o177.1, o177.2, mm_rf rv sp rr w nw)) 1 rfl ?_
                  refine mm_T.mask [true, true, false] ?_
                  exact ih y1 o177.1 o177.2 rv sp rr w nw out e k
              · rw [if_neg h174] at e
                refine mm_T.seg (f' := (80, [some (.ref 62), some (.int y1), none], [(.int 2), (.ref 62)])) (h' := (107, I, J, mm_rf rv sp rr w nw)) 2 rfl ?_
                obtain ⟨g33, hg33⟩ : ∃ z, fX12_wrong 2 I = z := ⟨_, rfl⟩
                try rw [hg33] at e
                refine mm_T.call (t := 215) (as := [(.ref 62), (.int 2)]) (f' := (83, [some (.ref 62), some (.int y1), none], [])) rfl (tX12_wrong (d + 2) 2 I J rv sp rr w nw g33 hg33) (fun v h hq => ?_)
                obtain ⟨rfl, rfl⟩ := hq
                refine mm_T.seg (f' := (84, [some (.ref 62), some (.int y1), none], [(.ref 62)])) (h' := (107, g33, J, mm_rf rv sp rr w nw)) 1 rfl ?_
                obtain ⟨g34, hg34⟩ : ∃ z, fX12_countUnit g33 = z := ⟨_, rfl⟩
                try rw [hg34] at e
                refine mm_T.call (t := 230) (as := [(.ref 62)]) (f' := (87, [some (.ref 62), some (.int y1), none], [])) rfl (tX12_countUnit (d + 2) g33 J rv sp rr w nw g34 hg34) (fun v h hq => ?_)
                obtain ⟨rfl, rfl⟩ := hq
                refine mm_T.seg (f' := (90, [some (.ref 62), some (.int y1), none], [(.int 20), (.ref 62)])) (h' := (107, g34, J, mm_rf rv sp rr w nw)) 2 rfl ?_
                obtain ⟨o178, eo178, e⟩ := mm_bind e
                refine mm_T.call (t := 231) (as := [(.ref 62), (.int 20)]) (f' := (93, [some (.ref 62), some (.int y1), none], [])) rfl (tX12_openUp (d + 0) n 20 g34 J rv sp rr w nw o178 eo178) (fun v h hq => ?_)
                obtain ⟨rfl, rfl⟩ := hq
                refine mm_T.seg (f' := (2, [some (.ref 62), some (.int y1), none], [])) (h' := (107, o178.1, o178.2, mm_rf rv sp rr w nw)) 1 rfl ?_
                refine mm_T.mask [true, true, false] ?_
                exact ih y1 o178.1 o178.2 rv sp rr w nw out e k
            · rw [if_neg h173] at e
              refine mm_T.seg (f' := (2, [some (.ref 62), some (.int 0), none], [])) (h' := (107, I, J, mm_rf rv sp rr w nw)) 3 rfl ?_
              refine mm_T.mask [true, true, false] ?_
              exact ih 0 I J rv sp rr w nw out e k
          · rw [if_neg h172] at e
            refine mm_T.seg (f' := (36, [some (.ref 62), some (.int y1), none], [(.int 6), (.int (I 62 23))])) (h' := (107, I, J, mm_rf rv sp rr w nw)) 3 rfl ?_
            refine mm_T.br (c := 6 < (I 62 23)) (a := ((39, [some (.ref 62), some (.int y1), none], []), (107, I, J, mm_rf rv sp rr w nw))) (b := ((44, [some (.ref 62), some (.int y1), none], []), (107, I, J, mm_rf rv sp rr w nw))) rfl (fun h179 => ?_) (fun h179 => ?_)
            · rw [if_pos h179] at e
              refine mm_T.seg (f' := (41, [some (.ref 62), some (.int y1), none], [(.int 2), (.ref 62)])) (h' := (107, I, J, mm_rf rv sp rr w nw)) 2 rfl ?_
              obtain ⟨g35, hg35⟩ : ∃ z, fX12_wrong 2 I = z := ⟨_, rfl⟩
              try rw [hg35] at e
              refine mm_T.call (t := 215) (as := [(.ref 62), (.int 2)]) (f' := (44, [some (.ref 62), some (.int y1), none], [])) rfl (tX12_wrong (d + 2) 2 I J rv sp rr w nw g35 hg35) (fun v h hq => ?_)
              obtain ⟨rfl, rfl⟩ := hq
              refine mm_T.seg (f' := (47, [some (.ref 62), some (.int y1), none], [(.int 21), (.ref 62)])) (h' := (107, g35, J, mm_rf rv sp rr w nw)) 2 rfl ?_
              obtain ⟨o180, eo180, e⟩ := mm_bind e
              refine mm_T.call (t := 231) (as := [(.ref 62), (.int 21)]) (f' := (50, [some (.ref 62), some (.int y1), none], [])) rfl (tX12_openUp (d + 0) n 21 g35 J rv sp rr w nw o180 eo180) (fun v h hq => ?_)
              obtain ⟨rfl, rfl⟩ := hq
              refine mm_T.seg (f' := (2, [some (.ref 62), some (.int y1), none], [])) (h' := (107, o180.1, o180.2, mm_rf rv sp rr w nw)) 1 rfl ?_
              refine mm_T.mask [true, true, false] ?_
              exact ih y1 o180.1 o180.2 rv sp rr w nw out e k
            · rw [if_neg h179] at e
              refine mm_T.seg (f' := (47, [some (.ref 62), some (.int y1), none], [(.int 21), (.ref 62)])) (h' := (107, I, J, mm_rf rv sp rr w nw)) 2 rfl ?_
              obtain ⟨o181, eo181, e⟩ := mm_bind e
              refine mm_T.call (t := 231) (as := [(.ref 62), (.int 21)]) (f' := (50, [some (.ref 62), some (.int y1), none], [])) rfl (tX12_openUp (d + 0) n 21 I J rv sp rr w nw o181 eo181) (fun v h hq => ?_)
              obtain ⟨rfl, rfl⟩ := hq
              refine mm_T.seg (f' := (2, [some (.ref 62), some (.int y1), none], [])) (h' := (107, o181.1, o181.2, mm_rf rv sp rr w nw)) 1 rfl ?_
              refine mm_T.mask [true, true, false] ?_
              exact ih y1 o181.1 o181.2 rv sp rr w nw out e k
      · rw [if_neg h163] at e
        cases e
        refine mm_T.mask [true, false, false] ?_
        exact k
set_option maxRecDepth 100000 in
set_option maxHeartbeats 4000000 in
theorem tbX12_unit_J160 (d n : Nat) (y2 : Int32) (u0 : Int32) (I : Nat → Nat → Int32) (J : Nat → Nat → Int64) (rv sp rr w nw : Nat) (out : (Nat → Nat → Int32) × (Nat → Nat → Int64)) (e : fX12_unit_J160 n y2 u0 I J = some out) : mm_T none (d + 3) 232 (160, [some (.ref 62), none, some (.int y2)], [(.int u0), (.ref 62)]) (107, I, J, mm_rf rv sp rr w nw) (fun v h => v = none ∧ h = (107, out.1, out.2, mm_rf rv sp rr w nw)) := by
  unfold fX12_unit_J160 at e
  refine mm_T.seg (f' := (161, [some (.ref 62), none, some (.int y2)], [(.int y2), (.int u0), (.ref 62)])) (h' := (107, I, J, mm_rf rv sp rr w nw)) 1 rfl ?_
  refine mm_T.br (c := y2 < 0) (a := ((164, [some (.ref 62), none, some (.int y2)], [(.int u0), (.ref 62)]), (107, I, J, mm_rf rv sp rr w nw))) (b := ((171, [some (.ref 62), none, some (.int y2)], [(.int u0), (.ref 62)]), (107, I, J, mm_rf rv sp rr w nw))) rfl (fun h188 => ?_) (fun h188 => ?_)
  · rw [if_pos h188] at e
    refine mm_T.seg (f' := (172, [some (.ref 62), none, some (.int y2)], [(.int (I 62 8)), (.int u0), (.ref 62)])) (h' := (107, I, J, mm_rf rv sp rr w nw)) 3 rfl ?_
    obtain ⟨o189, eo189, e⟩ := mm_bind e
    refine mm_T.call (t := 223) (as := [(.ref 62), (.int u0), (.int (I 62 8))]) (f' := (175, [some (.ref 62), none, some (.int y2)], [])) rfl (tX12_add (d + 2) u0 (I 62 8) I J rv sp rr w nw o189 eo189) (fun v h hq => ?_)
    obtain ⟨rfl, rfl⟩ := hq
    refine mm_T.seg (f' := (176, [some (.ref 62), none, some (.int y2)], [(.ref 62)])) (h' := (107, o189, J, mm_rf rv sp rr w nw)) 1 rfl ?_
    obtain ⟨o190, eo190, e⟩ := mm_bind e
    refine mm_T.call (t := 214) (as := [(.ref 62)]) (f' := (179, [some (.ref 62), none, some (.int y2)], [])) rfl (tX12_token (d + 1) n o189 J rv sp rr w nw o190 eo190) (fun v h hq => ?_)
    obtain ⟨rfl, rfl⟩ := hq
    cases e
    exact mm_T.ret rfl ⟨rfl, rfl⟩
  · rw [if_neg h188] at e
    refine mm_T.seg (f' := (172, [some (.ref 62), none, some (.int y2)], [(.int y2), (.int u0), (.ref 62)])) (h' := (107, I, J, mm_rf rv sp rr w nw)) 1 rfl ?_
    obtain ⟨o191, eo191, e⟩ := mm_bind e
    refine mm_T.call (t := 223) (as := [(.ref 62), (.int u0), (.int y2)]) (f' := (175, [some (.ref 62), none, some (.int y2)], [])) rfl (tX12_add (d + 2) u0 y2 I J rv sp rr w nw o191 eo191) (fun v h hq => ?_)
    obtain ⟨rfl, rfl⟩ := hq
    refine mm_T.seg (f' := (176, [some (.ref 62), none, some (.int y2)], [(.ref 62)])) (h' := (107, o191, J, mm_rf rv sp rr w nw)) 1 rfl ?_
    obtain ⟨o192, eo192, e⟩ := mm_bind e
    refine mm_T.call (t := 214) (as := [(.ref 62)]) (f' := (179, [some (.ref 62), none, some (.int y2)], [])) rfl (tX12_token (d + 1) n o191 J rv sp rr w nw o192 eo192) (fun v h hq => ?_)
    obtain ⟨rfl, rfl⟩ := hq
    cases e
    exact mm_T.ret rfl ⟨rfl, rfl⟩
set_option maxRecDepth 100000 in
set_option maxHeartbeats 4000000 in
theorem tbX12_unit_J138 (d n : Nat) (y2 : Int32) (I : Nat → Nat → Int32) (J : Nat → Nat → Int64) (rv sp rr w nw : Nat) (out : (Nat → Nat → Int32) × (Nat → Nat → Int64)) (e : fX12_unit_J138 n y2 I J = some out) : mm_T none (d + 3) 232 (138, [some (.ref 62), none, some (.int y2)], []) (107, I, J, mm_rf rv sp rr w nw) (fun v h => v = none ∧ h = (107, out.1, out.2, mm_rf rv sp rr w nw)) := by
  unfold fX12_unit_J138 at e
  refine mm_T.seg (f' := (142, [some (.ref 62), none, some (.int y2)], [(.int (I 62 2))])) (h' := (107, I, J, mm_rf rv sp rr w nw)) 2 rfl ?_
  refine mm_T.br (c := 0 < (I 62 2)) (a := ((145, [some (.ref 62), none, some (.int y2)], []), (107, I, J, mm_rf rv sp rr w nw))) (b := ((146, [some (.ref 62), none, some (.int y2)], []), (107, I, J, mm_rf rv sp rr w nw))) rfl (fun h186 => ?_) (fun h186 => ?_)
  · rw [if_pos h186] at e
    cases e
    exact mm_T.ret rfl ⟨rfl, rfl⟩
  · rw [if_neg h186] at e
    refine mm_T.seg (f' := (147, [some (.ref 62), none, some (.int y2)], [(.ref 62)])) (h' := (107, I, J, mm_rf rv sp rr w nw)) 1 rfl ?_
    obtain ⟨g38, hg38⟩ : ∃ z, fX12_countUnit I = z := ⟨_, rfl⟩
    try rw [hg38] at e
    refine mm_T.call (t := 230) (as := [(.ref 62)]) (f' := (150, [some (.ref 62), none, some (.int y2)], [])) rfl (tX12_countUnit (d + 2) I J rv sp rr w nw g38 hg38) (fun v h hq => ?_)
    obtain ⟨rfl, rfl⟩ := hq
    refine mm_T.seg (f' := (152, [some (.ref 62), none, some (.int y2)], [(.int y2), (.ref 62)])) (h' := (107, g38, J, mm_rf rv sp rr w nw)) 2 rfl ?_
    refine mm_T.br (c := y2 < 0) (a := ((155, [some (.ref 62), none, some (.int y2)], [(.ref 62)]), (107, g38, J, mm_rf rv sp rr w nw))) (b := ((159, [some (.ref 62), none, some (.int y2)], [(.ref 62)]), (107, g38, J, mm_rf rv sp rr w nw))) rfl (fun h187 => ?_) (fun h187 => ?_)
    · rw [if_pos h187] at e
      refine mm_T.seg (f' := (160, [some (.ref 62), none, some (.int y2)], [(.int 0), (.ref 62)])) (h' := (107, g38, J, mm_rf rv sp rr w nw)) 2 rfl ?_
      refine mm_T.mask [true, false, true] ?_
      exact tbX12_unit_J160 d n y2 0 g38 J rv sp rr w nw out e
    · rw [if_neg h187] at e
      refine mm_T.seg (f' := (160, [some (.ref 62), none, some (.int y2)], [(.int 1), (.ref 62)])) (h' := (107, g38, J, mm_rf rv sp rr w nw)) 1 rfl ?_
      refine mm_T.mask [true, false, true] ?_
      exact tbX12_unit_J160 d n y2 1 g38 J rv sp rr w nw out e
set_option maxRecDepth 100000 in
set_option maxHeartbeats 4000000 in
theorem tbX12_unit_J133 (d n : Nat) (y2 : Int32) (I : Nat → Nat → Int32) (J : Nat → Nat → Int64) (rv sp rr w nw : Nat) (out : (Nat → Nat → Int32) × (Nat → Nat → Int64)) (e : fX12_unit_J133 n y2 I J = some out) : mm_T none (d + 3) 232 (133, [some (.ref 62), none, some (.int y2)], []) (107, I, J, mm_rf rv sp rr w nw) (fun v h => v = none ∧ h = (107, out.1, out.2, mm_rf rv sp rr w nw)) := by
  unfold fX12_unit_J133 at e
  refine mm_T.seg (f' := (135, [some (.ref 62), none, some (.int y2)], [(.int 2), (.ref 62)])) (h' := (107, I, J, mm_rf rv sp rr w nw)) 2 rfl ?_
  obtain ⟨g39, hg39⟩ : ∃ z, fX12_wrong 2 I = z := ⟨_, rfl⟩
  try rw [hg39] at e
  refine mm_T.call (t := 215) (as := [(.ref 62), (.int 2)]) (f' := (138, [some (.ref 62), none, some (.int y2)], [])) rfl (tX12_wrong (d + 2) 2 I J rv sp rr w nw g39 hg39) (fun v h hq => ?_)
  obtain ⟨rfl, rfl⟩ := hq
  refine mm_T.mask [true, false, true] ?_
  exact tbX12_unit_J138 d n y2 g39 J rv sp rr w nw out e
set_option maxRecDepth 100000 in
set_option maxHeartbeats 4000000 in
theorem tbX12_unit_J126 (d n : Nat) (y2 : Int32) (I : Nat → Nat → Int32) (J : Nat → Nat → Int64) (rv sp rr w nw : Nat) (out : (Nat → Nat → Int32) × (Nat → Nat → Int64)) (e : fX12_unit_J126 n y2 I J = some out) : mm_T none (d + 3) 232 (126, [some (.ref 62), none, some (.int y2)], []) (107, I, J, mm_rf rv sp rr w nw) (fun v h => v = none ∧ h = (107, out.1, out.2, mm_rf rv sp rr w nw)) := by
  unfold fX12_unit_J126 at e
  refine mm_T.seg (f' := (127, [some (.ref 62), none, some (.int y2)], [(.ref 62)])) (h' := (107, I, J, mm_rf rv sp rr w nw)) 1 rfl ?_
  obtain ⟨g37, hg37⟩ : ∃ z, fX12_isFull I = z := ⟨_, rfl⟩
  try rw [hg37] at e
  refine mm_T.call (t := 229) (as := [(.ref 62)]) (f' := (130, [some (.ref 62), none, some (.int y2)], [])) rfl (tX12_isFull (d + 2) I J rv sp rr w nw g37 hg37) (fun v h hq => ?_)
  obtain ⟨rfl, rfl⟩ := hq
  refine mm_T.br (c := g37 = 0) (a := ((138, [some (.ref 62), none, some (.int y2)], []), (107, I, J, mm_rf rv sp rr w nw))) (b := ((133, [some (.ref 62), none, some (.int y2)], []), (107, I, J, mm_rf rv sp rr w nw))) rfl (fun h185 => ?_) (fun h185 => ?_)
  · rw [if_pos h185] at e
    refine mm_T.mask [true, false, true] ?_
    exact tbX12_unit_J138 d n y2 I J rv sp rr w nw out e
  · rw [if_neg h185] at e
    refine mm_T.mask [true, false, true] ?_
    exact tbX12_unit_J133 d n y2 I J rv sp rr w nw out e
set_option maxRecDepth 100000 in
set_option maxHeartbeats 4000000 in
theorem tbX12_unit_J101 (d n : Nat) (I : Nat → Nat → Int32) (J : Nat → Nat → Int64) (rv sp rr w nw : Nat) (out : (Nat → Nat → Int32) × (Nat → Nat → Int64)) (e : fX12_unit_J101 n I J = some out) : mm_T none (d + 3) 232 (101, [some (.ref 62), none, none], []) (107, I, J, mm_rf rv sp rr w nw) (fun v h => v = none ∧ h = (107, out.1, out.2, mm_rf rv sp rr w nw)) := by
  unfold fX12_unit_J101 at e
  refine mm_T.seg (f' := (105, [some (.ref 62), none, none], [(.int (I 62 2))])) (h' := (107, I, J, mm_rf rv sp rr w nw)) 2 rfl ?_
  refine mm_T.br (c := 0 < (I 62 2)) (a := ((108, [some (.ref 62), none, none], []), (107, I, J, mm_rf rv sp rr w nw))) (b := ((109, [some (.ref 62), none, none], []), (107, I, J, mm_rf rv sp rr w nw))) rfl (fun h183 => ?_) (fun h183 => ?_)
  · rw [if_pos h183] at e
    cases e
    exact mm_T.ret rfl ⟨rfl, rfl⟩
  · rw [if_neg h183] at e
    refine mm_T.seg (f' := (110, [some (.ref 62), none, none], [(.ref 62)])) (h' := (107, I, J, mm_rf rv sp rr w nw)) 1 rfl ?_
    obtain ⟨g36, hg36⟩ : ∃ z, fX12_asked I J = z := ⟨_, rfl⟩
    try rw [hg36] at e
    refine mm_T.call (t := 228) (as := [(.ref 62)]) (f' := (113, [some (.ref 62), none, none], [])) rfl (tX12_asked (d + 2) I J rv sp rr w nw g36 hg36) (fun v h hq => ?_)
    obtain ⟨rfl, rfl⟩ := hq
    refine mm_T.seg (f' := (119, [some (.ref 62), none, some (.int g36)], [(.int 2), (.int (I 62 6))])) (h' := (107, I, J, mm_rf rv sp rr w nw)) 4 rfl ?_
    refine mm_T.br (c := (I 62 6) = 2) (a := ((126, [some (.ref 62), none, some (.int g36)], []), (107, I, J, mm_rf rv sp rr w nw))) (b := ((122, [some (.ref 62), none, some (.int g36)], []), (107, I, J, mm_rf rv sp rr w nw))) rfl (fun h184 => ?_) (fun h184 => ?_)
    · rw [if_pos h184] at e
      refine mm_T.mask [true, false, true] ?_
      exact tbX12_unit_J126 d n g36 I J rv sp rr w nw out e
    · rw [if_neg h184] at e
      refine mm_T.seg (f' := (123, [some (.ref 62), none, some (.int g36)], [(.int g36)])) (h' := (107, I, J, mm_rf rv sp rr w nw)) 1 rfl ?_
      refine mm_T.br (c := g36 < 0) (a := ((133, [some (.ref 62), none, some (.int g36)], []), (107, I, J, mm_rf rv sp rr w nw))) (b := ((126, [some (.ref 62), none, some (.int g36)], []), (107, I, J, mm_rf rv sp rr w nw))) rfl (fun h193 => ?_) (fun h193 => ?_)
      · rw [if_pos h193] at e
        refine mm_T.mask [true, false, true] ?_
        exact tbX12_unit_J133 d n g36 I J rv sp rr w nw out e
      · rw [if_neg h193] at e
        refine mm_T.mask [true, false, true] ?_
        exact tbX12_unit_J126 d n g36 I J rv sp rr w nw out e
set_option maxRecDepth 100000 in
set_option maxHeartbeats 4000000 in
theorem tX12_unit (d n : Nat) (I : Nat → Nat → Int32) (J : Nat → Nat → Int64) (rv sp rr w nw : Nat) (out : (Nat → Nat → Int32) × (Nat → Nat → Int64)) (e : fX12_unit n I J = some out) : mm_T none (d + 3) 232 (mm_ent 232 [(.ref 62)]) (107, I, J, mm_rf rv sp rr w nw) (fun v h => v = none ∧ h = (107, out.1, out.2, mm_rf rv sp rr w nw)) := by
  unfold fX12_unit at e
  refine mm_T.seg (f' := (2, [some (.ref 62), some (.int 1), none], [])) (h' := (107, I, J, mm_rf rv sp rr w nw)) 2 rfl ?_
  refine mm_T.mask [true, true, false] ?_
  obtain ⟨o182, eo182, e⟩ := mm_bind e
  refine tlX12_unit_L2 d _ n 1 I J rv sp rr w nw o182 eo182 ?_
  refine mm_T.mask [true, false, false] ?_
  exact tbX12_unit_J101 d n o182.1 o182.2 rv sp rr w nw out e
set_option maxRecDepth 100000 in
set_option maxHeartbeats 4000000 in
theorem tX12_sign (d : Nat) (I : Nat → Nat → Int32) (J : Nat → Nat → Int64) (rv sp rr w nw : Nat) (out : Int32) (e : fX12_sign I J = out) : mm_T none (d + 1) 233 (mm_ent 233 [(.ref 62)]) (107, I, J, mm_rf rv sp rr w nw) (fun v h => v = some (.int out) ∧ h = (107, I, J, mm_rf rv sp rr w nw)) := by
  unfold fX12_sign at e
  refine mm_T.seg (f' := (4, [some (.ref 62)], [(.long 6385252), (.ref 62)])) (h' := (107, I, J, mm_rf rv sp rr w nw)) 2 rfl ?_
  obtain ⟨g40, hg40⟩ : ∃ z, fX12_isWord 6385252 I J = z := ⟨_, rfl⟩
  try rw [hg40] at e
  refine mm_T.call (t := 216) (as := [(.ref 62), (.long 6385252)]) (f' := (7, [some (.ref 62)], [])) rfl (tX12_isWord (d + 0) 6385252 I J rv sp rr w nw g40 hg40) (fun v h hq => ?_)
  obtain ⟨rfl, rfl⟩ := hq
  refine mm_T.br (c := g40 = 0) (a := ((13, [some (.ref 62)], []), (107, I, J, mm_rf rv sp rr w nw))) (b := ((10, [some (.ref 62)], []), (107, I, J, mm_rf rv sp rr w nw))) rfl (fun h194 => ?_) (fun h194 => ?_)
  · rw [if_pos h194] at e
    refine mm_T.seg (f' := (17, [some (.ref 62)], [(.long 28530), (.ref 62)])) (h' := (107, I, J, mm_rf rv sp rr w nw)) 2 rfl ?_
    obtain ⟨g41, hg41⟩ : ∃ z, fX12_isWord 28530 I J = z := ⟨_, rfl⟩
    try rw [hg41] at e
    refine mm_T.call (t := 216) (as := [(.ref 62), (.long 28530)]) (f' := (20, [some (.ref 62)], [])) rfl (tX12_isWord (d + 0) 28530 I J rv sp rr w nw g41 hg41) (fun v h hq => ?_)
    obtain ⟨rfl, rfl⟩ := hq
    refine mm_T.br (c := g41 = 0) (a := ((26, [some (.ref 62)], []), (107, I, J, mm_rf rv sp rr w nw))) (b := ((23, [some (.ref 62)], []), (107, I, J, mm_rf rv sp rr w nw))) rfl (fun h195 => ?_) (fun h195 => ?_)
    · rw [if_pos h195] at e
      refine mm_T.seg (f' := (32, [some (.ref 62)], [(.int 60), (.int (I 62 6))])) (h' := (107, I, J, mm_rf rv sp rr w nw)) 3 rfl ?_
      refine mm_T.br (c := (I 62 6) = 60) (a := ((98, [some (.ref 62)], []), (107, I, J, mm_rf rv sp rr w nw))) (b := ((35, [some (.ref 62)], []), (107, I, J, mm_rf rv sp rr w nw))) rfl (fun h196 => ?_) (fun h196 => ?_)
      · rw [if_pos h196] at e
        refine mm_T.seg (f' := (106, [some (.ref 62)], [(.int (I 62 6))])) (h' := (107, I, J, mm_rf rv sp rr w nw)) 3 rfl ?_
        cases e
        exact mm_T.ret rfl ⟨rfl, rfl⟩
      · rw [if_neg h196] at e
        refine mm_T.seg (f' := (41, [some (.ref 62)], [(.int 62), (.int (I 62 6))])) (h' := (107, I, J, mm_rf rv sp rr w nw)) 3 rfl ?_
        refine mm_T.br (c := (I 62 6) = 62) (a := ((98, [some (.ref 62)], []), (107, I, J, mm_rf rv sp rr w nw))) (b := ((44, [some (.ref 62)], []), (107, I, J, mm_rf rv sp rr w nw))) rfl (fun h197 => ?_) (fun h197 => ?_)
        · rw [if_pos h197] at e
          refine mm_T.seg (f' := (106, [some (.ref 62)], [(.int (I 62 6))])) (h' := (107, I, J, mm_rf rv sp rr w nw)) 3 rfl ?_
          cases e
          exact mm_T.ret rfl ⟨rfl, rfl⟩
        · rw [if_neg h197] at e
          refine mm_T.seg (f' := (50, [some (.ref 62)], [(.int 61), (.int (I 62 6))])) (h' := (107, I, J, mm_rf rv sp rr w nw)) 3 rfl ?_
          refine mm_T.br (c := (I 62 6) = 61) (a := ((98, [some (.ref 62)], []), (107, I, J, mm_rf rv sp rr w nw))) (b := ((53, [some (.ref 62)], []), (107, I, J, mm_rf rv sp rr w nw))) rfl (fun h198 => ?_) (fun h198 => ?_)
          · rw [if_pos h198] at e
            refine mm_T.seg (f' := (106, [some (.ref 62)], [(.int (I 62 6))])) (h' := (107, I, J, mm_rf rv sp rr w nw)) 3 rfl ?_
            cases e
            exact mm_T.ret rfl ⟨rfl, rfl⟩
          · rw [if_neg h198] at e
            refine mm_T.seg (f' := (59, [some (.ref 62)], [(.int 43), (.int (I 62 6))])) (h' := (107, I, J, mm_rf rv sp rr w nw)) 3 rfl ?_
            refine mm_T.br (c := (I 62 6) = 43) (a := ((98, [some (.ref 62)], []), (107, I, J, mm_rf rv sp rr w nw))) (b := ((62, [some (.ref 62)], []), (107, I, J, mm_rf rv sp rr w nw))) rfl (fun h199 => ?_) (fun h199 => ?_)
            · rw [if_pos h199] at e
              refine mm_T.seg (f' := (106, [some (.ref 62)], [(.int (I 62 6))])) (h' := (107, I, J, mm_rf rv sp rr w nw)) 3 rfl ?_
              cases e
              exact mm_T.ret rfl ⟨rfl, rfl⟩
            · rw [if_neg h199] at e
              refine mm_T.seg (f' := (68, [some (.ref 62)], [(.int 45), (.int (I 62 6))])) (h' := (107, I, J, mm_rf rv sp rr w nw)) 3 rfl ?_
              refine mm_T.br (c := (I 62 6) = 45) (a := ((98, [some (.ref 62)], []), (107, I, J, mm_rf rv sp rr w nw))) (b := ((71, [some (.ref 62)], []), (107, I, J, mm_rf rv sp rr w nw))) rfl (fun h200 => ?_) (fun h200 => ?_)
              · rw [if_pos h200] at e
                refine mm_T.seg (f' := (106, [some (.ref 62)], [(.int (I 62 6))])) (h' := (107, I, J, mm_rf rv sp rr w nw)) 3 rfl ?_
                cases e
                exact mm_T.ret rfl ⟨rfl, rfl⟩
              · rw [if_neg h200] at e
                refine mm_T.seg (f' := (77, [some (.ref 62)], [(.int 42), (.int (I 62 6))])) (h' := (107, I, J, mm_rf rv sp rr w nw)) 3 rfl ?_
                refine mm_T.br (c := (I 62 6) = 42) (a := ((98, [some (.ref 62)], []), (107, I, J, mm_rf rv sp rr w nw))) (b := ((80, [some (.ref 62)], []), (107, I, J, mm_rf rv sp rr w nw))) rfl (fun h201 => ?_) (fun h201 => ?_)
                · rw [if_pos h201] at e
                  refine mm_T.seg (f' := (106, [some (.ref 62)], [(.int (I 62 6))])) (h' := (107, I, J, mm_rf rv sp rr w nw)) 3 rfl ?_
                  cases e
                  exact mm_T.ret rfl ⟨rfl, rfl⟩
                · rw [if_neg h201] at e
                  refine mm_T.seg (f' := (86, [some (.ref 62)], [(.int 47), (.int (I 62 6))])) (h' := (107, I, J, mm_rf rv sp rr w nw)) 3 rfl ?_
                  refine mm_T.br (c := (I 62 6) = 47) (a := ((98, [some (.ref 62)], []), (107, I, J, mm_rf rv sp rr w nw))) (b := ((89, [some (.ref 62)], []), (107, I, J, mm_rf rv sp rr w nw))) rfl (fun h202 => ?_) (fun h202 => ?_)
                  · rw [if_pos h202] at e
                    refine mm_T.seg (f' := (106, [some (.ref 62)], [(.int (I 62 6))])) (h' := (107, I, J, mm_rf rv sp rr w nw)) 3 rfl ?_
                    cases e
                    exact mm_T.ret rfl ⟨rfl, rfl⟩
                  · rw [if_neg h202] at e
                    refine mm_T.seg (f' := (95, [some (.ref 62)], [(.int 37), (.int (I 62 6))])) (h' := (107, I, J, mm_rf rv sp rr w nw)) 3 rfl ?_
                    refine mm_T.br (c := (I 62 6) = 37) (a := ((98, [some (.ref 62)], []), (107, I, J, mm_rf rv sp rr w nw))) (b := ((105, [some (.ref 62)], []), (107, I, J, mm_rf rv sp rr w nw))) rfl (fun h203 => ?_) (fun h203 => ?_)
                    · rw [if_pos h203] at e
                      refine mm_T.seg (f' := (106, [some (.ref 62)], [(.int (I 62 6))])) (h' := (107, I, J, mm_rf rv sp rr w nw)) 3 rfl ?_
                      cases e
                      exact mm_T.ret rfl ⟨rfl, rfl⟩
                    · rw [if_neg h203] at e
                      refine mm_T.seg (f' := (106, [some (.ref 62)], [(.int 0)])) (h' := (107, I, J, mm_rf rv sp rr w nw)) 1 rfl ?_
                      cases e
                      exact mm_T.ret rfl ⟨rfl, rfl⟩
    · rw [if_neg h195] at e
      refine mm_T.seg (f' := (25, [some (.ref 62)], [(.int 124)])) (h' := (107, I, J, mm_rf rv sp rr w nw)) 1 rfl ?_
      cases e
      exact mm_T.ret rfl ⟨rfl, rfl⟩
  · rw [if_neg h194] at e
    refine mm_T.seg (f' := (12, [some (.ref 62)], [(.int 38)])) (h' := (107, I, J, mm_rf rv sp rr w nw)) 1 rfl ?_
    cases e
    exact mm_T.ret rfl ⟨rfl, rfl⟩
set_option maxRecDepth 100000 in
set_option maxHeartbeats 4000000 in
theorem tlX12_hasBracket_L4 (d : Nat) (Q : Option Value → mm_H → Prop) : ∀ (n : Nat) (y1 : Int32) (y2 : Int32) (I : Nat → Nat → Int32) (J : Nat → Nat → Int64) (rv sp rr w nw : Nat), ∀ (out : Int32), fX12_hasBracket_L4 n y1 y2 I = some out → mm_T none (d + 0) 234 (39, [none, some (.int out), none], []) (107, I, J, mm_rf rv sp rr w nw) Q → mm_T none (d + 0) 234 (4, [some (.ref 62), some (.int y1), some (.int y2)], []) (107, I, J, mm_rf rv sp rr w nw) Q := by
  intro n
  induction n with
  | zero =>
    intro y1 y2 I J rv sp rr w nw out e k
    rw [fX12_hasBracket_L4] at e; cases e
  | succ n ih =>
    intro y1 y2 I J rv sp rr w nw out e k
    rw [fX12_hasBracket_L4] at e
    refine mm_T.seg (f' := (9, [some (.ref 62), some (.int y1), some (.int y2)], [(.int (I 62 19)), (.int y2)])) (h' := (107, I, J, mm_rf rv sp rr w nw)) 3 rfl ?_
    refine mm_T.br (c := y2 < (I 62 19)) (a := ((12, [some (.ref 62), some (.int y1), some (.int y2)], []), (107, I, J, mm_rf rv sp rr w nw))) (b := ((39, [some (.ref 62), some (.int y1), some (.int y2)], []), (107, I, J, mm_rf rv sp rr w nw))) rfl (fun h208 => ?_) (fun h208 => ?_)
    · rw [if_pos h208] at e
      refine mm_T.seg (f' := (13, [some (.ref 62), some (.int y1), some (.int y2)], [(.int y1)])) (h' := (107, I, J, mm_rf rv sp rr w nw)) 1 rfl ?_
      refine mm_T.br (c := y1 = 0) (a := ((16, [some (.ref 62), some (.int y1), some (.int y2)], []), (107, I, J, mm_rf rv sp rr w nw))) (b := ((27, [some (.ref 62), some (.int y1), some (.int y2)], []), (107, I, J, mm_rf rv sp rr w nw))) rfl (fun h209 => ?_) (fun h209 => ?_)
      · rw [if_pos h209] at e
        refine mm_T.seg (f' := (20, [some (.ref 62), some (.int y1), some (.int y2)], [(.ref 69)])) (h' := (107, I, J, mm_rf rv sp rr w nw)) 2 rfl ?_
        refine mm_T.seg (f' := (21, [some (.ref 62), some (.int y1), some (.int y2)], [(.int y2), (.ref 69)])) (h' := (107, I, J, mm_rf rv sp rr w nw)) 1 rfl ?_
        by_cases h210 : y2 < 0 ∨ 160 ≤ y2.toNatClampNeg
        · rw [if_pos h210] at e; cases e
        rw [if_neg h210] at e
        refine mm_T.guard (y := ((22, [some (.ref 62), some (.int y1), some (.int y2)], [(.int (I 69 y2.toNatClampNeg))]), (107, I, J, mm_rf rv sp rr w nw))) rfl h210 ?_
        refine mm_T.seg (f' := (24, [some (.ref 62), some (.int y1), some (.int y2)], [(.int 20), (.int (I 69 y2.toNatClampNeg))])) (h' := (107, I, J, mm_rf rv sp rr w nw)) 1 rfl ?_
        refine mm_T.br (c := (I 69 y2.toNatClampNeg) = 20) (a := ((27, [some (.ref 62), some (.int y1), some (.int y2)], []), (107, I, J, mm_rf rv sp rr w nw))) (b := ((31, [some (.ref 62), some (.int y1), some (.int y2)], []), (107, I, J, mm_rf rv sp rr w nw))) rfl (fun h211 => ?_) (fun h211 => ?_)
        · rw [if_pos h211] at e
          refine mm_T.seg (f' := (4, [some (.ref 62), some (.int 1), some (.int (y2 + 1))], [])) (h' := (107, I, J, mm_rf rv sp rr w nw)) 5 rfl ?_
          refine mm_T.mask [true, true, true] ?_
          exact ih 1 (y2 + 1) I J rv sp rr w nw out e k
        · rw [if_neg h211] at e
          refine mm_T.seg (f' := (4, [some (.ref 62), some (.int 0), some (.int (y2 + 1))], [])) (h' := (107, I, J, mm_rf rv sp rr w nw)) 4 rfl ?_
          refine mm_T.mask [true, true, true] ?_
          exact ih 0 (y2 + 1) I J rv sp rr w nw out e k
      · rw [if_neg h209] at e
        refine mm_T.seg (f' := (4, [some (.ref 62), some (.int 1), some (.int (y2 + 1))], [])) (h' := (107, I, J, mm_rf rv sp rr w nw)) 5 rfl ?_
        refine mm_T.mask [true, true, true] ?_
        exact ih 1 (y2 + 1) I J rv sp rr w nw out e k
    · rw [if_neg h208] at e
      cases e
      refine mm_T.mask [false, true, false] ?_
      exact k
set_option maxRecDepth 100000 in
set_option maxHeartbeats 4000000 in
theorem tX12_hasBracket (d n : Nat) (I : Nat → Nat → Int32) (J : Nat → Nat → Int64) (rv sp rr w nw : Nat) (out : Int32) (e : fX12_hasBracket n I = some out) : mm_T none (d + 0) 234 (mm_ent 234 [(.ref 62)]) (107, I, J, mm_rf rv sp rr w nw) (fun v h => v = some (.int out) ∧ h = (107, I, J, mm_rf rv sp rr w nw)) := by
  unfold fX12_hasBracket at e
  refine mm_T.seg (f' := (4, [some (.ref 62), some (.int 0), some (.int 0)], [])) (h' := (107, I, J, mm_rf rv sp rr w nw)) 4 rfl ?_
  refine mm_T.mask [true, true, true] ?_
  obtain ⟨o212, eo212, e⟩ := mm_bind e
  refine tlX12_hasBracket_L4 d _ n 0 0 I J rv sp rr w nw o212 eo212 ?_
  refine mm_T.seg (f' := (40, [none, some (.int o212), none], [(.int o212)])) (h' := (107, I, J, mm_rf rv sp rr w nw)) 1 rfl ?_
  by_cases h213 : o212 = 0 ∨ o212 = 1
  case neg => rw [if_neg h213] at e; cases e
  rw [if_pos h213] at e
  cases e
  first | exact mm_T.retZ (v := some (.int o212)) rfl h213 ⟨rfl, rfl⟩ | exact mm_T.retZ (v := some (.int out)) rfl h213 ⟨rfl, rfl⟩
set_option maxRecDepth 100000 in
set_option maxHeartbeats 4000000 in
theorem tlX12_formula_L35 (d : Nat) (Q : Option Value → mm_H → Prop) : ∀ (n : Nat) (y1 : Int32) (I : Nat → Nat → Int32) (J : Nat → Nat → Int64) (rv sp rr w nw : Nat), ∀ (out : (Nat → Nat → Int32) × (Nat → Nat → Int64)), fX12_formula_L35 n y1 I J = some out → mm_T none (d + 4) 235 (162, [some (.ref 62), none, none], []) (107, out.1, out.2, mm_rf rv sp rr w nw) Q → mm_T none (d + 4) 235 (35, [some (.ref 62), some (.int y1), none], []) (107, I, J, mm_rf rv sp rr w nw) Q := by
  intro n
  induction n with
  | zero =>
    intro y1 I J rv sp rr w nw out e k
    rw [fX12_formula_L35] at e; cases e
  | succ n ih =>
    intro y1 I J rv sp rr w nw out e k
    rw [fX12_formula_L35] at e
    refine mm_T.seg (f' := (36, [some (.ref 62), some (.int y1), none], [(.int y1)])) (h' := (107, I, J, mm_rf rv sp rr w nw)) 1 rfl ?_
    refine mm_T.br (c := y1 = 0) (a := ((162, [some (.ref 62), some (.int y1), none], []), (107, I, J, mm_rf rv sp rr w nw))) (b := ((39, [some (.ref 62), some (.int y1), none], []), (107, I, J, mm_rf rv sp rr w nw))) rfl (fun h216 => ?_) (fun h216 => ?_)
    · rw [if_pos h216] at e
      cases e
      refine mm_T.mask [true, false, false] ?_
      exact k
    · rw [if_neg h216] at e
      refine mm_T.seg (f' := (43, [some (.ref 62), some (.int y1), none], [(.int (I 62 2))])) (h' := (107, I, J, mm_rf rv sp rr w nw)) 2 rfl ?_
      refine mm_T.br (c := (I 62 2) = 0) (a := ((46, [some (.ref 62), some (.int y1), none], []), (107, I, J, mm_rf rv sp rr w nw))) (b := ((162, [some (.ref 62), some (.int y1), none], []), (107, I, J, mm_rf rv sp rr w nw))) rfl (fun h217 => ?_) (fun h217 => ?_)
      · rw [if_pos h217] at e
        refine mm_T.seg (f' := (47, [some (.ref 62), some (.int y1), none], [(.ref 62)])) (h' := (107, I, J, mm_rf rv sp rr w nw)) 1 rfl ?_
        refine mm_T.call (t := 233) (as := [(.ref 62)]) (f' := (50, [some (.ref 62), some (.int y1), none], [])) rfl (tX12_sign (d + 2) I J rv sp rr w nw _ rfl) (fun v h hq => ?_)
        obtain ⟨rfl, rfl⟩ := hq
        refine mm_T.seg (f' := (57, [some (.ref 62), some (.int y1), some (.int (fX12_sign I J))], [(.int 41), (.int (I 62 6))])) (h' := (107, I, J, mm_rf rv sp rr w nw)) 4 rfl ?_
        refine mm_T.br (c := (I 62 6) = 41) (a := ((60, [some (.ref 62), some (.int y1), some (.int (fX12_sign I J))], []), (107, I, J, mm_rf rv sp rr w nw))) (b := ((99, [some (.ref 62), some (.int y1), some (.int (fX12_sign I J))], []), (107, I, J, mm_rf rv sp rr w nw))) rfl (fun h218 => ?_) (fun h218 => ?_)
        · rw [if_pos h218] at e
          refine mm_T.seg (f' := (61, [some (.ref 62), some (.int y1), some (.int (fX12_sign I J))], [(.ref 62)])) (h' := (107, I, J, mm_rf rv sp rr w nw)) 1 rfl ?_
          obtain ⟨o219, eo219, e⟩ := mm_bind e
          refine mm_T.call (t := 234) (as := [(.ref 62)]) (f' := (64, [some (.ref 62), some (.int y1), some (.int (fX12_sign I J))], [])) rfl (tX12_hasBracket (d + 3) n I J rv sp rr w nw o219 eo219) (fun v h hq => ?_)
          obtain ⟨rfl, rfl⟩ := hq
          refine mm_T.br (c := o219 = 0) (a := ((99, [some (.ref 62), some (.int y1), some (.int (fX12_sign I J))], []), (107, I, J, mm_rf rv sp rr w nw))) (b := ((67, [some (.ref 62), some (.int y1), some (.int (fX12_sign I J))], []), (107, I, J, mm_rf rv sp rr w nw))) rfl (fun h220 => ?_) (fun h220 => ?_)
          · rw [if_pos h220] at e
            refine mm_T.seg (f' := (100, [some (.ref 62), some (.int y1), some (.int (fX12_sign I J))], [(.int (fX12_sign I J))])) (h' := (107, I, J, mm_rf rv sp rr w nw)) 1 rfl ?_
            refine mm_T.br (c := (fX12_sign I J) = 0) (a := ((157, [some (.ref 62), some (.int y1), some (.int (fX12_sign I J))], []), (107, I, J, mm_rf rv sp rr w nw))) (b := ((103, [some (.ref 62), some (.int y1), some (.int (fX12_sign I J))], []), (107, I, J, mm_rf rv sp rr w nw))) rfl (fun h221 => ?_) (fun h221 => ?_)
            · rw [if_pos h221] at e
              refine mm_T.seg (f' := (35, [some (.ref 62), some (.int 0), some (.int (fX12_sign I J))], [])) (h' := (107, I, J, mm_rf rv sp rr w nw)) 3 rfl ?_
              refine mm_T.mask [true, true, false] ?_
              exact ih 0 I J rv sp rr w nw out e k
            · rw [if_neg h221] at e
              refine mm_T.seg (f' := (104, [some (.ref 62), some (.int y1), some (.int (fX12_sign I J))], [(.int (fX12_sign I J))])) (h' := (107, I, J, mm_rf rv sp rr w nw)) 1 rfl ?_
              refine mm_T.call (t := 224) (as := [(.int (fX12_sign I J))]) (f' := (107, [some (.ref 62), some (.int y1), some (.int (fX12_sign I J))], [])) rfl (tX12_tight (d + 3) (fX12_sign I J) I J rv sp rr w nw _ rfl) (fun v h hq => ?_)
              obtain ⟨rfl, rfl⟩ := hq
              refine mm_T.seg (f' := (108, [some (.ref 62), some (.int y1), some (.int (fX12_sign I J))], [(.int 4), (.int (fX12_tight (fX12_sign I J)))])) (h' := (107, I, J, mm_rf rv sp rr w nw)) 1 rfl ?_
              refine mm_T.br (c := (fX12_tight (fX12_sign I J)) = 4) (a := ((111, [some (.ref 62), some (.int y1), some (.int (fX12_sign I J))], []), (107, I, J, mm_rf rv sp rr w nw))) (b := ((118, [some (.ref 62), some (.int y1), some (.int (fX12_sign I J))], []), (107, I, J, mm_rf rv sp rr w nw))) rfl (fun h222 => ?_) (fun h222 => ?_)
              · rw [if_pos h222] at e
                refine mm_T.seg (f' := (112, [some (.ref 62), some (.int y1), some (.int (fX12_sign I J))], [(.ref 62)])) (h' := (107, I, J, mm_rf rv sp rr w nw)) 1 rfl ?_
                obtain ⟨o223, eo223, e⟩ := mm_bind e
                refine mm_T.call (t := 226) (as := [(.ref 62)]) (f' := (115, [some (.ref 62), some (.int y1), some (.int (fX12_sign I J))], [])) rfl (tX12_hasRelation (d + 2) n I J rv sp rr w nw o223 eo223) (fun v h hq => ?_)
                obtain ⟨rfl, rfl⟩ := hq
                refine mm_T.br (c := o223 = 0) (a := ((118, [some (.ref 62), some (.int y1), some (.int (fX12_sign I J))], []), (107, I, J, mm_rf rv sp rr w nw))) (b := ((157, [some (.ref 62), some (.int y1), some (.int (fX12_sign I J))], []), (107, I, J, mm_rf rv sp rr w nw))) rfl (fun h224 => ?_) (fun h224 => ?_)
                · rw [if_pos h224] at e
                  refine mm_T.seg (f' := (120, [some (.ref 62), some (.int y1), some (.int (fX12_sign I J))], [(.int (fX12_sign I J)), (.ref 62)])) (h' := (107, I, J, mm_rf rv sp rr w nw)) 2 rfl ?_
                  refine mm_T.call (t := 224) (as := [(.int (fX12_sign I J))]) (f' := (123, [some (.ref 62), some (.int y1), some (.int (fX12_sign I J))], [(.ref 62)])) rfl (tX12_tight (d + 3) (fX12_sign I J) I J rv sp rr w nw _ rfl) (fun v h hq => ?_)
                  obtain ⟨rfl, rfl⟩ := hq
                  obtain ⟨o225, eo225, e⟩ := mm_bind e
                  refine mm_T.call (t := 225) (as := [(.ref 62), (.int (fX12_tight (fX12_sign I J)))]) (f' := (126, [some (.ref 62), some (.int y1), some (.int (fX12_sign I J))], [])) rfl (tX12_close (d + 2) n (fX12_tight (fX12_sign I J)) I J rv sp rr w nw o225 eo225) (fun v h hq => ?_)
                  obtain ⟨rfl, rfl⟩ := hq
                  refine mm_T.seg (f' := (130, [some (.ref 62), some (.int y1), some (.int (fX12_sign I J))], [(.ref 69)])) (h' := (107, o225, J, mm_rf rv sp rr w nw)) 2 rfl ?_
                  refine mm_T.seg (f' := (135, [some (.ref 62), some (.int y1), some (.int (fX12_sign I J))], [(.int (fX12_sign I J)), (.int (o225 62 19)), (.ref 69)])) (h' := (107, o225, J, mm_rf rv sp rr w nw)) 3 rfl ?_
                  by_cases h226 : (o225 62 19) < 0 ∨ 160 ≤ (o225 62 19).toNatClampNeg
                  · rw [if_pos h226] at e; cases e
                  rw [if_neg h226] at e
                  refine mm_T.guard (y := ((136, [some (.ref 62), some (.int y1), some (.int (fX12_sign I J))], []), (107, (mm_up o225 69 (o225 62 19).toNatClampNeg (fX12_sign I J)), J, mm_rf rv sp rr w nw))) rfl h226 ?_
                  refine mm_T.seg (f' := (147, [some (.ref 62), some (.int y1), some (.int (fX12_sign I J))], [(.ref 62)])) (h' := (107, (mm_up (mm_up o225 69 (o225 62 19).toNatClampNeg (fX12_sign I J)) 62 19 ((o225 62 19) + 1)), J, mm_rf rv sp rr w nw)) 7 rfl ?_
                  obtain ⟨o227, eo227, e⟩ := mm_bind e
                  refine mm_T.call (t := 214) (as := [(.ref 62)]) (f' := (150, [some (.ref 62), some (.int y1), some (.int (fX12_sign I J))], [])) rfl (tX12_token (d + 2) n (mm_up (mm_up o225 69 (o225 62 19).toNatClampNeg (fX12_sign I J)) 62 19 ((o225 62 19) + 1)) J rv sp rr w nw o227 eo227) (fun v h hq => ?_)
                  obtain ⟨rfl, rfl⟩ := hq
                  refine mm_T.seg (f' := (151, [some (.ref 62), some (.int y1), some (.int (fX12_sign I J))], [(.ref 62)])) (h' := (107, o227.1, o227.2, mm_rf rv sp rr w nw)) 1 rfl ?_
                  obtain ⟨o228, eo228, e⟩ := mm_bind e
                  refine mm_T.call (t := 232) (as := [(.ref 62)]) (f' := (154, [some (.ref 62), some (.int y1), some (.int (fX12_sign I J))], [])) rfl (tX12_unit (d + 0) n o227.1 o227.2 rv sp rr w nw o228 eo228) (fun v h hq => ?_)
                  obtain ⟨rfl, rfl⟩ := hq
                  refine mm_T.seg (f' := (35, [some (.ref 62), some (.int y1), some (.int (fX12_sign I J))], [])) (h' := (107, o228.1, o228.2, mm_rf rv sp rr w nw)) 2 rfl ?_
                  refine mm_T.mask [true, true, false] ?_
                  exact ih y1 o228.1 o228.2 rv sp rr w nw out e k
                · rw [if_neg h224] at e
                  refine mm_T.seg (f' := (35, [some (.ref 62), some (.int 0), some (.int (fX12_sign I J))], [])) (h' := (107, I, J, mm_rf rv sp rr w nw)) 3 rfl ?_
                  refine mm_T.mask [true, true, false] ?_
                  exact ih 0 I J rv sp rr w nw out e k
              · rw [if_neg h222] at e
                refine mm_T.seg (f' := (120, [some (.ref 62), some (.int y1), some (.int (fX12_sign I J))], [(.int (fX12_sign I J)), (.ref 62)])) (h' := (107, I, J, mm_rf rv sp rr w nw)) 2 rfl ?_
                refine mm_T.call (t := 224) (as := [(.int (fX12_sign I J))]) (f' := (123, [some (.ref 62), some (.int y1), some (.int (fX12_sign I J))], [(.ref 62)])) rfl (tX12_tight (d + 3) (fX12_sign I J) I J rv sp rr w nw _ rfl) (fun v h hq => ?_)
                obtain ⟨rfl, rfl⟩ := hq
                obtain ⟨o229, eo229, e⟩ := mm_bind e
                refine mm_T.call (t := 225) (as := [(.ref 62), (.int (fX12_tight (fX12_sign I J)))]) (f' := (126, [some (.ref 62), some (.int y1), some (.int (fX12_sign I J))], [])) rfl (tX12_close (d + 2) n (fX12_tight (fX12_sign I J)) I J rv sp rr w nw o229 eo229) (fun v h hq => ?_)
                obtain ⟨rfl, rfl⟩ := hq
                refine mm_T.seg (f' := (130, [some (.ref 62), some (.int y1), some (.int (fX12_sign I J))], [(.ref 69)])) (h' := (107, o229, J, mm_rf rv sp rr w nw)) 2 rfl ?_
                refine mm_T.seg (f' := (135, [some (.ref 62), some (.int y1), some (.int (fX12_sign I J))], [(.int (fX12_sign I J)), (.int (o229 62 19)), (.ref 69)])) (h' := (107, o229, J, mm_rf rv sp rr w nw)) 3 rfl ?_
                by_cases h230 : (o229 62 19) < 0 ∨ 160 ≤ (o229 62 19).toNatClampNeg
                · rw [if_pos h230] at e; cases e
                rw [if_neg h230] at e
                refine mm_T.guard (y := ((136, [some (.ref 62), some (.int y1), some (.int (fX12_sign I J))], []), (107, (mm_up o229 69 (o229 62 19).toNatClampNeg (fX12_sign I J)), J, mm_rf rv sp rr w nw))) rfl h230 ?_
                refine mm_T.seg (f' := (147, [some (.ref 62), some (.int y1), some (.int (fX12_sign I J))], [(.ref 62)])) (h' := (107, (mm_up (mm_up o229 69 (o229 62 19).toNatClampNeg (fX12_sign I J)) 62 19 ((o229 62 19) + 1)), J, mm_rf rv sp rr w nw)) 7 rfl ?_
                obtain ⟨o231, eo231, e⟩ := mm_bind e
                refine mm_T.call (t := 214) (as := [(.ref 62)]) (f' := (150, [some (.ref 62), some (.int y1), some (.int (fX12_sign I J))], [])) rfl (tX12_token (d + 2) n (mm_up (mm_up o229 69 (o229 62 19).toNatClampNeg (fX12_sign I J)) 62 19 ((o229 62 19) + 1)) J rv sp rr w nw o231 eo231) (fun v h hq => ?_)
                obtain ⟨rfl, rfl⟩ := hq
                refine mm_T.seg (f' := (151, [some (.ref 62), some (.int y1), some (.int (fX12_sign I J))], [(.ref 62)])) (h' := (107, o231.1, o231.2, mm_rf rv sp rr w nw)) 1 rfl ?_
                obtain ⟨o232, eo232, e⟩ := mm_bind e
                refine mm_T.call (t := 232) (as := [(.ref 62)]) (f' := (154, [some (.ref 62), some (.int y1), some (.int (fX12_sign I J))], [])) rfl (tX12_unit (d + 0) n o231.1 o231.2 rv sp rr w nw o232 eo232) (fun v h hq => ?_)
                obtain ⟨rfl, rfl⟩ := hq
                refine mm_T.seg (f' := (35, [some (.ref 62), some (.int y1), some (.int (fX12_sign I J))], [])) (h' := (107, o232.1, o232.2, mm_rf rv sp rr w nw)) 2 rfl ?_
                refine mm_T.mask [true, true, false] ?_
                exact ih y1 o232.1 o232.2 rv sp rr w nw out e k
          · rw [if_neg h220] at e
            refine mm_T.seg (f' := (69, [some (.ref 62), some (.int y1), some (.int (fX12_sign I J))], [(.int 0), (.ref 62)])) (h' := (107, I, J, mm_rf rv sp rr w nw)) 2 rfl ?_
            obtain ⟨o233, eo233, e⟩ := mm_bind e
            refine mm_T.call (t := 225) (as := [(.ref 62), (.int 0)]) (f' := (72, [some (.ref 62), some (.int y1), some (.int (fX12_sign I J))], [])) rfl (tX12_close (d + 2) n 0 I J rv sp rr w nw o233 eo233) (fun v h hq => ?_)
            obtain ⟨rfl, rfl⟩ := hq
            refine mm_T.seg (f' := (93, [some (.ref 62), some (.int y1), some (.int (fX12_sign I J))], [(.ref 62)])) (h' := (107, (mm_up (mm_up o233 62 19 ((o233 62 19) - 1)) 62 23 ((o233 62 23) - 1)), J, mm_rf rv sp rr w nw)) 13 rfl ?_
            obtain ⟨o234, eo234, e⟩ := mm_bind e
            refine mm_T.call (t := 214) (as := [(.ref 62)]) (f' := (96, [some (.ref 62), some (.int y1), some (.int (fX12_sign I J))], [])) rfl (tX12_token (d + 2) n (mm_up (mm_up o233 62 19 ((o233 62 19) - 1)) 62 23 ((o233 62 23) - 1)) J rv sp rr w nw o234 eo234) (fun v h hq => ?_)
            obtain ⟨rfl, rfl⟩ := hq
            refine mm_T.seg (f' := (35, [some (.ref 62), some (.int y1), some (.int (fX12_sign I J))], [])) (h' := (107, o234.1, o234.2, mm_rf rv sp rr w nw)) 2 rfl ?_
            refine mm_T.mask [true, true, false] ?_
            exact ih y1 o234.1 o234.2 rv sp rr w nw out e k
        · rw [if_neg h218] at e
          refine mm_T.seg (f' := (100, [some (.ref 62), some (.int y1), some (.int (fX12_sign I J))], [(.int (fX12_sign I J))])) (h' := (107, I, J, mm_rf rv sp rr w nw)) 1 rfl ?_
          refine mm_T.br (c := (fX12_sign I J) = 0) (a := ((157, [some (.ref 62), some (.int y1), some (.int (fX12_sign I J))], []), (107, I, J, mm_rf rv sp rr w nw))) (b := ((103, [some (.ref 62), some (.int y1), some (.int (fX12_sign I J))], []), (107, I, J, mm_rf rv sp rr w nw))) rfl (fun h235 => ?_) (fun h235 => ?_)
          · rw [if_pos h235] at e
            refine mm_T.seg (f' := (35, [some (.ref 62), some (.int 0), some (.int (fX12_sign I J))], [])) (h' := (107, I, J, mm_rf rv sp rr w nw)) 3 rfl ?_
            refine mm_T.mask [true, true, false] ?_
            exact ih 0 I J rv sp rr w nw out e k
          · rw [if_neg h235] at e
            refine mm_T.seg (f' := (104, [some (.ref 62), some (.int y1), some (.int (fX12_sign I J))], [(.int (fX12_sign I J))])) (h' := (107, I, J, mm_rf rv sp rr w nw)) 1 rfl ?_
            refine mm_T.call (t := 224) (as := [(.int (fX12_sign I J))]) (f' := (107, [some (.ref 62), some (.int y1), some (.int (fX12_sign I J))], [])) rfl (tX12_tight (d + 3) (fX12_sign I J) I J rv sp rr w nw _ rfl) (fun v h hq => ?_)
            obtain ⟨rfl, rfl⟩ := hq
            refine mm_T.seg (f' := (108, [some (.ref 62), some (.int y1), some (.int (fX12_sign I J))], [(.int 4), (.int (fX12_tight (fX12_sign I J)))])) (h' := (107, I, J, mm_rf rv sp rr w nw)) 1 rfl ?_
            refine mm_T.br (c := (fX12_tight (fX12_sign I J)) = 4) (a := ((111, [some (.ref 62), some (.int y1), some (.int (fX12_sign I J))], []), (107, I, J, mm_rf rv sp rr w nw))) (b := ((118, [some (.ref 62), some (.int y1), some (.int (fX12_sign I J))], []), (107, I, J, mm_rf rv sp rr w nw))) rfl (fun h236 => ?_) (fun h236 => ?_)
            · rw [if_pos h236] at e
              refine mm_T.seg (f' := (112, [some (.ref 62), some (.int y1), some (.int (fX12_sign I J))], [(.ref 62)])) (h' := (107, I, J, mm_rf rv sp rr w nw)) 1 rfl ?_
              obtain ⟨o237, eo237, e⟩ := mm_bind e
              refine mm_T.call (t := 226) (as := [(.ref 62)]) (f' := (115, [some (.ref 62), some (.int y1), some (.int (fX12_sign I J))], [])) rfl (tX12_hasRelation (d + 2) n I J rv sp rr w nw o237 eo237) (fun v h hq => ?_)
              obtain ⟨rfl, rfl⟩ := hq
              refine mm_T.br (c := o237 = 0) (a := ((118, [some (.ref 62), some (.int y1), some (.int (fX12_sign I J))], []), (107, I, J, mm_rf rv sp rr w nw))) (b := ((157, [some (.ref 62), some (.int y1), some (.int (fX12_sign I J))], []), (107, I, J, mm_rf rv sp rr w nw))) rfl (fun h238 => ?_) (fun h238 => ?_)
              · rw [if_pos h238] at e
                refine mm_T.seg (f' := (120, [some (.ref 62), some (.int y1), some (.int (fX12_sign I J))], [(.int (fX12_sign I J)), (.ref 62)])) (h' := (107, I, J, mm_rf rv sp rr w nw)) 2 rfl ?_
                refine mm_T.call (t := 224) (as := [(.int (fX12_sign I J))]) (f' := (123, [some (.ref 62), some (.int y1), some (.int (fX12_sign I J))], [(.ref 62)])) rfl (tX12_tight (d + 3) (fX12_sign I J) I J rv sp rr w nw _ rfl) (fun v h hq => ?_)
                obtain ⟨rfl, rfl⟩ := hq
                obtain ⟨o239, eo239, e⟩ := mm_bind e
                refine mm_T.call (t := 225) (as := [(.ref 62), (.int (fX12_tight (fX12_sign I J)))]) (f' := (126, [some (.ref 62), some (.int y1), some (.int (fX12_sign I J))], [])) rfl (tX12_close (d + 2) n (fX12_tight (fX12_sign I J)) I J rv sp rr w nw o239 eo239) (fun v h hq => ?_)
                obtain ⟨rfl, rfl⟩ := hq
                refine mm_T.seg (f' := (130, [some (.ref 62), some (.int y1), some (.int (fX12_sign I J))], [(.ref 69)])) (h' := (107, o239, J, mm_rf rv sp rr w nw)) 2 rfl ?_
                refine mm_T.seg (f' := (135, [some (.ref 62), some (.int y1), some (.int (fX12_sign I J))], [(.int (fX12_sign I J)), (.int (o239 62 19)), (.ref 69)])) (h' := (107, o239, J, mm_rf rv sp rr w nw)) 3 rfl ?_
                by_cases h240 : (o239 62 19) < 0 ∨ 160 ≤ (o239 62 19).toNatClampNeg
                · rw [if_pos h240] at e; cases e
                rw [if_neg h240] at e
                refine mm_T.guard (y := ((136, [some (.ref 62), some (.int y1), some (.int (fX12_sign I J))], []), (107, (mm_up o239 69 (o239 62 19).toNatClampNeg (fX12_sign I J)), J, mm_rf rv sp rr w nw))) rfl h240 ?_
                refine mm_T.seg (f' := (147, [some (.ref 62), some (.int y1), some (.int (fX12_sign I J))], [(.ref 62)])) (h' := (107, (mm_up (mm_up o239 69 (o239 62 19).toNatClampNeg (fX12_sign I J)) 62 19 ((o239 62 19) + 1)), J, mm_rf rv sp rr w nw)) 7 rfl ?_
                obtain ⟨o241, eo241, e⟩ := mm_bind e
                refine mm_T.call (t := 214) (as := [(.ref 62)]) (f' := (150, [some (.ref 62), some (.int y1), some (.int (fX12_sign I J))], [])) rfl (tX12_token (d + 2) n (mm_up (mm_up o239 69 (o239 62 19).toNatClampNeg (fX12_sign I J)) 62 19 ((o239 62 19) + 1)) J rv sp rr w nw o241 eo241) (fun v h hq => ?_)
                obtain ⟨rfl, rfl⟩ := hq
                refine mm_T.seg (f' := (151, [some (.ref 62), some (.int y1), some (.int (fX12_sign I J))], [(.ref 62)])) (h' := (107, o241.1, o241.2, mm_rf rv sp rr w nw)) 1 rfl ?_
                obtain ⟨o242, eo242, e⟩ := mm_bind e
                refine mm_T.call (t := 232) (as := [(.ref 62)]) (f' := (154, [some (.ref 62), some (.int y1), some (.int (fX12_sign I J))], [])) rfl (tX12_unit (d + 0) n o241.1 o241.2 rv sp rr w nw o242 eo242) (fun v h hq => ?_)
                obtain ⟨rfl, rfl⟩ := hq
                refine mm_T.seg (f' := (35, [some (.ref 62), some (.int y1), some (.int (fX12_sign I J))], [])) (h' := (107, o242.1, o242.2, mm_rf rv sp rr w nw)) 2 rfl ?_
                refine mm_T.mask [true, true, false] ?_
                exact ih y1 o242.1 o242.2 rv sp rr w nw out e k
              · rw [if_neg h238] at e
                refine mm_T.seg (f' := (35, [some (.ref 62), some (.int 0), some (.int (fX12_sign I J))], [])) (h' := (107, I, J, mm_rf rv sp rr w nw)) 3 rfl ?_
                refine mm_T.mask [true, true, false] ?_
                exact ih 0 I J rv sp rr w nw out e k
            · rw [if_neg h236] at e
              refine mm_T.seg (f' := (120, [some (.ref 62), some (.int y1), some (.int (fX12_sign I J))], [(.int (fX12_sign I J)), (.ref 62)])) (h' := (107, I, J, mm_rf rv sp rr w nw)) 2 rfl ?_
              refine mm_T.call (t := 224) (as := [(.int (fX12_sign I J))]) (f' := (123, [some (.ref 62), some (.int y1), some (.int (fX12_sign I J))], [(.ref 62)])) rfl (tX12_tight (d + 3) (fX12_sign I J) I J rv sp rr w nw _ rfl) (fun v h hq => ?_)
              obtain ⟨rfl, rfl⟩ := hq
              obtain ⟨o243, eo243, e⟩ := mm_bind e
              refine mm_T.call (t := 225) (as := [(.ref 62), (.int (fX12_tight (fX12_sign I J)))]) (f' := (126, [some (.ref 62), some (.int y1), some (.int (fX12_sign I J))], [])) rfl (tX12_close (d + 2) n (fX12_tight (fX12_sign I J)) I J rv sp rr w nw o243 eo243) (fun v h hq => ?_)
              obtain ⟨rfl, rfl⟩ := hq
              refine mm_T.seg (f' := (130, [some (.ref 62), some (.int y1), some (.int (fX12_sign I J))], [(.ref 69)])) (h' := (107, o243, J, mm_rf rv sp rr w nw)) 2 rfl ?_
              refine mm_T.seg (f' := (135, [some (.ref 62), some (.int y1), some (.int (fX12_sign I J))], [(.int (fX12_sign I J)), (.int (o243 62 19)), (.ref 69)])) (h' := (107, o243, J, mm_rf rv sp rr w nw)) 3 rfl ?_
              by_cases h244 : (o243 62 19) < 0 ∨ 160 ≤ (o243 62 19).toNatClampNeg
              · rw [if_pos h244] at e; cases e
              rw [if_neg h244] at e
              refine mm_T.guard (y := ((136, [some (.ref 62), some (.int y1), some (.int (fX12_sign I J))], []), (107, (mm_up o243 69 (o243 62 19).toNatClampNeg (fX12_sign I J)), J, mm_rf rv sp rr w nw))) rfl h244 ?_
              refine mm_T.seg (f' := (147, [some (.ref 62), some (.int y1), some (.int (fX12_sign I J))], [(.ref 62)])) (h' := (107, (mm_up (mm_up o243 69 (o243 62 19).toNatClampNeg (fX12_sign I J)) 62 19 ((o243 62 19) + 1)), J, mm_rf rv sp rr w nw)) 7 rfl ?_
              obtain ⟨o245, eo245, e⟩ := mm_bind e
              refine mm_T.call (t := 214) (as := [(.ref 62)]) (f' := (150, [some (.ref 62), some (.int y1), some (.int (fX12_sign I J))], [])) rfl (tX12_token (d + 2) n (mm_up (mm_up o243 69 (o243 62 19).toNatClampNeg (fX12_sign I J)) 62 19 ((o243 62 19) + 1)) J rv sp rr w nw o245 eo245) (fun v h hq => ?_)
              obtain ⟨rfl, rfl⟩ := hq
              refine mm_T.seg (f' := (151, [some (.ref 62), some (.int y1), some (.int (fX12_sign I J))], [(.ref 62)])) (h' := (107, o245.1, o245.2, mm_rf rv sp rr w nw)) 1 rfl ?_
              obtain ⟨o246, eo246, e⟩ := mm_bind e
              refine mm_T.call (t := 232) (as := [(.ref 62)]) (f' := (154, [some (.ref 62), some (.int y1), some (.int (fX12_sign I J))], [])) rfl (tX12_unit (d + 0) n o245.1 o245.2 rv sp rr w nw o246 eo246) (fun v h hq => ?_)
              obtain ⟨rfl, rfl⟩ := hq
              refine mm_T.seg (f' := (35, [some (.ref 62), some (.int y1), some (.int (fX12_sign I J))], [])) (h' := (107, o246.1, o246.2, mm_rf rv sp rr w nw)) 2 rfl ?_
              refine mm_T.mask [true, true, false] ?_
              exact ih y1 o246.1 o246.2 rv sp rr w nw out e k
      · rw [if_neg h217] at e
        cases e
        refine mm_T.mask [true, false, false] ?_
        exact k
set_option maxRecDepth 100000 in
set_option maxHeartbeats 4000000 in
theorem tbX12_formula_J181 (d n : Nat) (I : Nat → Nat → Int32) (J : Nat → Nat → Int64) (rv sp rr w nw : Nat) (out : (Nat → Nat → Int32) × (Nat → Nat → Int64)) (e : fX12_formula_J181 n I J = some out) : mm_T none (d + 4) 235 (181, [some (.ref 62), none, none], []) (107, I, J, mm_rf rv sp rr w nw) (fun v h => v = none ∧ h = (107, out.1, out.2, mm_rf rv sp rr w nw)) := by
  unfold fX12_formula_J181 at e
  refine mm_T.seg (f' := (185, [some (.ref 62), none, none], [(.int (I 62 2))])) (h' := (107, I, J, mm_rf rv sp rr w nw)) 2 rfl ?_
  refine mm_T.br (c := (I 62 2) = 0) (a := ((188, [some (.ref 62), none, none], []), (107, I, J, mm_rf rv sp rr w nw))) (b := ((193, [some (.ref 62), none, none], []), (107, I, J, mm_rf rv sp rr w nw))) rfl (fun h251 => ?_) (fun h251 => ?_)
  · rw [if_pos h251] at e
    refine mm_T.seg (f' := (190, [some (.ref 62), none, none], [(.int 0), (.ref 62)])) (h' := (107, I, J, mm_rf rv sp rr w nw)) 2 rfl ?_
    obtain ⟨o252, eo252, e⟩ := mm_bind e
    refine mm_T.call (t := 225) (as := [(.ref 62), (.int 0)]) (f' := (193, [some (.ref 62), none, none], [])) rfl (tX12_close (d + 2) n 0 I J rv sp rr w nw o252 eo252) (fun v h hq => ?_)
    obtain ⟨rfl, rfl⟩ := hq
    cases e
    exact mm_T.ret rfl ⟨rfl, rfl⟩
  · rw [if_neg h251] at e
    cases e
    exact mm_T.ret rfl ⟨rfl, rfl⟩
set_option maxRecDepth 100000 in
set_option maxHeartbeats 4000000 in
theorem tbX12_formula_J162 (d n : Nat) (I : Nat → Nat → Int32) (J : Nat → Nat → Int64) (rv sp rr w nw : Nat) (out : (Nat → Nat → Int32) × (Nat → Nat → Int64)) (e : fX12_formula_J162 n I J = some out) : mm_T none (d + 4) 235 (162, [some (.ref 62), none, none], []) (107, I, J, mm_rf rv sp rr w nw) (fun v h => v = none ∧ h = (107, out.1, out.2, mm_rf rv sp rr w nw)) := by
  unfold fX12_formula_J162 at e
  refine mm_T.seg (f' := (166, [some (.ref 62), none, none], [(.int (I 62 2))])) (h' := (107, I, J, mm_rf rv sp rr w nw)) 2 rfl ?_
  refine mm_T.br (c := (I 62 2) = 0) (a := ((169, [some (.ref 62), none, none], []), (107, I, J, mm_rf rv sp rr w nw))) (b := ((181, [some (.ref 62), none, none], []), (107, I, J, mm_rf rv sp rr w nw))) rfl (fun h248 => ?_) (fun h248 => ?_)
  · rw [if_pos h248] at e
    refine mm_T.seg (f' := (170, [some (.ref 62), none, none], [(.ref 62)])) (h' := (107, I, J, mm_rf rv sp rr w nw)) 1 rfl ?_
    obtain ⟨o249, eo249, e⟩ := mm_bind e
    refine mm_T.call (t := 234) (as := [(.ref 62)]) (f' := (173, [some (.ref 62), none, none], [])) rfl (tX12_hasBracket (d + 3) n I J rv sp rr w nw o249 eo249) (fun v h hq => ?_)
    obtain ⟨rfl, rfl⟩ := hq
    refine mm_T.br (c := o249 = 0) (a := ((181, [some (.ref 62), none, none], []), (107, I, J, mm_rf rv sp rr w nw))) (b := ((176, [some (.ref 62), none, none], []), (107, I, J, mm_rf rv sp rr w nw))) rfl (fun h250 => ?_) (fun h250 => ?_)
    · rw [if_pos h250] at e
      refine mm_T.mask [true, false, false] ?_
      exact tbX12_formula_J181 d n I J rv sp rr w nw out e
    · rw [if_neg h250] at e
      refine mm_T.seg (f' := (178, [some (.ref 62), none, none], [(.int 2), (.ref 62)])) (h' := (107, I, J, mm_rf rv sp rr w nw)) 2 rfl ?_
      refine mm_T.call (t := 215) (as := [(.ref 62), (.int 2)]) (f' := (181, [some (.ref 62), none, none], [])) rfl (tX12_wrong (d + 3) 2 I J rv sp rr w nw _ rfl) (fun v h hq => ?_)
      obtain ⟨rfl, rfl⟩ := hq
      refine mm_T.mask [true, false, false] ?_
      exact tbX12_formula_J181 d n (fX12_wrong 2 I) J rv sp rr w nw out e
  · rw [if_neg h248] at e
    refine mm_T.mask [true, false, false] ?_
    exact tbX12_formula_J181 d n I J rv sp rr w nw out e
set_option maxRecDepth 100000 in
set_option maxHeartbeats 4000000 in
theorem tX12_formula (d n : Nat) (I : Nat → Nat → Int32) (J : Nat → Nat → Int64) (rv sp rr w nw : Nat) (out : (Nat → Nat → Int32) × (Nat → Nat → Int64)) (e : fX12_formula n I J = some out) : mm_T none (d + 4) 235 (mm_ent 235 [(.ref 62)]) (107, I, J, mm_rf rv sp rr w nw) (fun v h => v = none ∧ h = (107, out.1, out.2, mm_rf rv sp rr w nw)) := by
  unfold fX12_formula at e
  refine mm_T.seg (f' := (1, [some (.ref 62), none, none], [(.ref 62)])) (h' := (107, I, J, mm_rf rv sp rr w nw)) 1 rfl ?_
  obtain ⟨o214, eo214, e⟩ := mm_bind e
  refine mm_T.call (t := 214) (as := [(.ref 62)]) (f' := (4, [some (.ref 62), none, none], [])) rfl (tX12_token (d + 2) n I J rv sp rr w nw o214 eo214) (fun v h hq => ?_)
  obtain ⟨rfl, rfl⟩ := hq
  refine mm_T.seg (f' := (30, [some (.ref 62), none, none], [(.ref 62)])) (h' := (107, (mm_up (mm_up (mm_up (mm_up (mm_up o214.1 62 24 1) 62 17 0) 62 19 0) 62 23 0) 62 22 0), o214.2, mm_rf rv sp rr w nw)) 16 rfl ?_
  obtain ⟨o215, eo215, e⟩ := mm_bind e
  refine mm_T.call (t := 232) (as := [(.ref 62)]) (f' := (33, [some (.ref 62), none, none], [])) rfl (tX12_unit (d + 0) n (mm_up (mm_up (mm_up (mm_up (mm_up o214.1 62 24 1) 62 17 0) 62 19 0) 62 23 0) 62 22 0) o214.2 rv sp rr w nw o215 eo215) (fun v h hq => ?_)
  obtain ⟨rfl, rfl⟩ := hq
  refine mm_T.seg (f' := (35, [some (.ref 62), some (.int 1), none], [])) (h' := (107, o215.1, o215.2, mm_rf rv sp rr w nw)) 2 rfl ?_
  refine mm_T.mask [true, true, false] ?_
  obtain ⟨o247, eo247, e⟩ := mm_bind e
  refine tlX12_formula_L35 d _ n 1 o215.1 o215.2 rv sp rr w nw o247 eo247 ?_
  refine mm_T.mask [true, false, false] ?_
  exact tbX12_formula_J162 d n o247.1 o247.2 rv sp rr w nw out e
set_option maxRecDepth 100000 in
set_option maxHeartbeats 4000000 in
theorem tX12_truth (d : Nat) (x0 : Int32) (I : Nat → Nat → Int32) (J : Nat → Nat → Int64) (rv sp rr w nw : Nat) (out : Int32) (e : fX12_truth x0 = out) : mm_T none (d + 0) 236 (mm_ent 236 [(.int x0)]) (107, I, J, mm_rf rv sp rr w nw) (fun v h => v = some (.int out) ∧ h = (107, I, J, mm_rf rv sp rr w nw)) := by
  unfold fX12_truth at e
  refine mm_T.seg (f' := (1, [some (.int x0)], [(.int x0)])) (h' := (107, I, J, mm_rf rv sp rr w nw)) 1 rfl ?_
  refine mm_T.br (c := x0 = 0) (a := ((8, [some (.int x0)], []), (107, I, J, mm_rf rv sp rr w nw))) (b := ((4, [some (.int x0)], []), (107, I, J, mm_rf rv sp rr w nw))) rfl (fun h253 => ?_) (fun h253 => ?_)
  · rw [if_pos h253] at e
    refine mm_T.seg (f' := (9, [some (.int x0)], [(.int 0)])) (h' := (107, I, J, mm_rf rv sp rr w nw)) 1 rfl ?_
    cases e
    exact mm_T.ret rfl ⟨rfl, rfl⟩
  · rw [if_neg h253] at e
    refine mm_T.seg (f' := (9, [some (.int x0)], [(.int 1)])) (h' := (107, I, J, mm_rf rv sp rr w nw)) 2 rfl ?_
    cases e
    exact mm_T.ret rfl ⟨rfl, rfl⟩
set_option maxRecDepth 100000 in
set_option maxHeartbeats 4000000 in
theorem tX12_done (d : Nat) (x0 : Int32) (x1 : Int32) (x2 : Int32) (I : Nat → Nat → Int32) (J : Nat → Nat → Int64) (rv sp rr w nw : Nat) (out : Int32) (e : fX12_done x0 x1 x2 = some out) : mm_T none (d + 1) 237 (mm_ent 237 [(.int x0), (.int x1), (.int x2)]) (107, I, J, mm_rf rv sp rr w nw) (fun v h => v = some (.int out) ∧ h = (107, I, J, mm_rf rv sp rr w nw)) := by
  unfold fX12_done at e
  refine mm_T.seg (f' := (1, [some (.int x0), some (.int x1), some (.int x2)], [(.int x0)])) (h' := (107, I, J, mm_rf rv sp rr w nw)) 1 rfl ?_
  by_cases h254 : x0 = 37
  · rw [if_pos h254] at e
    refine mm_T.step (f' := (144, [some (.int x0), some (.int x1), some (.int x2)], [])) (h' := (107, I, J, mm_rf rv sp rr w nw)) (by first | (rw [h254]; rfl) | exact absurd h254 (by decide)) ?_
    refine mm_T.seg (f' := (145, [some (.int x0), some (.int x1), some (.int x2)], [(.int x2)])) (h' := (107, I, J, mm_rf rv sp rr w nw)) 1 rfl ?_
    refine mm_T.br (c := x2 = 0) (a := ((148, [some (.int x0), some (.int x1), some (.int x2)], []), (107, I, J, mm_rf rv sp rr w nw))) (b := ((152, [some (.int x0), some (.int x1), some (.int x2)], []), (107, I, J, mm_rf rv sp rr w nw))) rfl (fun h255 => ?_) (fun h255 => ?_)
    · rw [if_pos h255] at e
      refine mm_T.seg (f' := (155, [some (.int x0), some (.int x1), some (.int x2)], [(.int 0)])) (h' := (107, I, J, mm_rf rv sp rr w nw)) 2 rfl ?_
      cases e
      exact mm_T.ret rfl ⟨rfl, rfl⟩
    · rw [if_neg h255] at e
      refine mm_T.seg (f' := (154, [some (.int x0), some (.int x1), some (.int x2)], [(.int x2), (.int x1)])) (h' := (107, I, J, mm_rf rv sp rr w nw)) 2 rfl ?_
      by_cases h256 : x2 = 0
      · rw [if_pos h256] at e; cases e
      rw [if_neg h256] at e
      refine mm_T.guard (y := ((155, [some (.int x0), some (.int x1), some (.int x2)], [(.int (x1 - x1 / x2 * x2))]), (107, I, J, mm_rf rv sp rr w nw))) rfl h256 ?_
      cases e
      exact mm_T.ret rfl ⟨rfl, rfl⟩
  · rw [if_neg h254] at e
    by_cases h257 : x0 = 38
    · rw [if_pos h257] at e
      refine mm_T.step (f' := (198, [some (.int x0), some (.int x1), some (.int x2)], [])) (h' := (107, I, J, mm_rf rv sp rr w nw)) (by first | (rw [h257]; rfl) | exact absurd h257 (by decide)) ?_
      refine mm_T.seg (f' := (199, [some (.int x0), some (.int x1), some (.int x2)], [(.int x1)])) (h' := (107, I, J, mm_rf rv sp rr w nw)) 1 rfl ?_
      refine mm_T.br (c := x1 = 0) (a := ((210, [some (.int x0), some (.int x1), some (.int x2)], []), (107, I, J, mm_rf rv sp rr w nw))) (b := ((202, [some (.int x0), some (.int x1), some (.int x2)], []), (107, I, J, mm_rf rv sp rr w nw))) rfl (fun h258 => ?_) (fun h258 => ?_)
      · rw [if_pos h258] at e
        refine mm_T.seg (f' := (211, [some (.int x0), some (.int x1), some (.int x2)], [(.int 0)])) (h' := (107, I, J, mm_rf rv sp rr w nw)) 1 rfl ?_
        obtain ⟨g42, hg42⟩ : ∃ z, fX12_truth 0 = z := ⟨_, rfl⟩
        try rw [hg42] at e
        refine mm_T.call (t := 236) (as := [(.int 0)]) (f' := (214, [some (.int x0), some (.int x1), some (.int x2)], [])) rfl (tX12_truth (d + 0) 0 I J rv sp rr w nw g42 hg42) (fun v h hq => ?_)
        obtain ⟨rfl, rfl⟩ := hq
        cases e
        exact mm_T.ret rfl ⟨rfl, rfl⟩
      · rw [if_neg h258] at e
        refine mm_T.seg (f' := (203, [some (.int x0), some (.int x1), some (.int x2)], [(.int x2)])) (h' := (107, I, J, mm_rf rv sp rr w nw)) 1 rfl ?_
        refine mm_T.br (c := x2 = 0) (a := ((210, [some (.int x0), some (.int x1), some (.int x2)], []), (107, I, J, mm_rf rv sp rr w nw))) (b := ((206, [some (.int x0), some (.int x1), some (.int x2)], []), (107, I, J, mm_rf rv sp rr w nw))) rfl (fun h259 => ?_) (fun h259 => ?_)
        · rw [if_pos h259] at e
          refine mm_T.seg (f' := (211, [some (.int x0), some (.int x1), some (.int x2)], [(.int 0)])) (h' := (107, I, J, mm_rf rv sp rr w nw)) 1 rfl ?_
          obtain ⟨g43, hg43⟩ : ∃ z, fX12_truth 0 = z := ⟨_, rfl⟩
          try rw [hg43] at e
          refine mm_T.call (t := 236) (as := [(.int 0)]) (f' := (214, [some (.int x0), some (.int x1), some (.int x2)], [])) rfl (tX12_truth (d + 0) 0 I J rv sp rr w nw g43 hg43) (fun v h hq => ?_)
          obtain ⟨rfl, rfl⟩ := hq
          cases e
          exact mm_T.ret rfl ⟨rfl, rfl⟩
        · rw [if_neg h259] at e
          refine mm_T.seg (f' := (211, [some (.int x0), some (.int x1), some (.int x2)], [(.int 1)])) (h' := (107, I, J, mm_rf rv sp rr w nw)) 2 rfl ?_
          obtain ⟨g44, hg44⟩ : ∃ z, fX12_truth 1 = z := ⟨_, rfl⟩
          try rw [hg44] at e
          refine mm_T.call (t := 236) (as := [(.int 1)]) (f' := (214, [some (.int x0), some (.int x1), some (.int x2)], [])) rfl (tX12_truth (d + 0) 1 I J rv sp rr w nw g44 hg44) (fun v h hq => ?_)
          obtain ⟨rfl, rfl⟩ := hq
          cases e
          exact mm_T.ret rfl ⟨rfl, rfl⟩
    · rw [if_neg h257] at e
      by_cases h260 : x0 = 39
      · rw [if_pos h260] at e
        refine mm_T.step (f' := (215, [some (.int x0), some (.int x1), some (.int x2)], [])) (h' := (107, I, J, mm_rf rv sp rr w nw)) (by first | (rw [h260]; rfl) | exact absurd h260 (by decide)) ?_
        refine mm_T.seg (f' := (216, [some (.int x0), some (.int x1), some (.int x2)], [(.int x1)])) (h' := (107, I, J, mm_rf rv sp rr w nw)) 1 rfl ?_
        refine mm_T.br (c := x1 = 0) (a := ((219, [some (.int x0), some (.int x1), some (.int x2)], []), (107, I, J, mm_rf rv sp rr w nw))) (b := ((223, [some (.int x0), some (.int x1), some (.int x2)], []), (107, I, J, mm_rf rv sp rr w nw))) rfl (fun h261 => ?_) (fun h261 => ?_)
        · rw [if_pos h261] at e
          refine mm_T.seg (f' := (220, [some (.int x0), some (.int x1), some (.int x2)], [(.int x2)])) (h' := (107, I, J, mm_rf rv sp rr w nw)) 1 rfl ?_
          refine mm_T.br (c := x2 = 0) (a := ((227, [some (.int x0), some (.int x1), some (.int x2)], []), (107, I, J, mm_rf rv sp rr w nw))) (b := ((223, [some (.int x0), some (.int x1), some (.int x2)], []), (107, I, J, mm_rf rv sp rr w nw))) rfl (fun h262 => ?_) (fun h262 => ?_)
          · rw [if_pos h262] at e
            refine mm_T.seg (f' := (228, [some (.int x0), some (.int x1), some (.int x2)], [(.int 0)])) (h' := (107, I, J, mm_rf rv sp rr w nw)) 1 rfl ?_
            obtain ⟨g45, hg45⟩ : ∃ z, fX12_truth 0 = z := ⟨_, rfl⟩
            try rw [hg45] at e
            refine mm_T.call (t := 236) (as := [(.int 0)]) (f' := (231, [some (.int x0), some (.int x1), some (.int x2)], [])) rfl (tX12_truth (d + 0) 0 I J rv sp rr w nw g45 hg45) (fun v h hq => ?_)
            obtain ⟨rfl, rfl⟩ := hq
            cases e
            exact mm_T.ret rfl ⟨rfl, rfl⟩
          · rw [if_neg h262] at e
            refine mm_T.seg (f' := (228, [some (.int x0), some (.int x1), some (.int x2)], [(.int 1)])) (h' := (107, I, J, mm_rf rv sp rr w nw)) 2 rfl ?_
            obtain ⟨g46, hg46⟩ : ∃ z, fX12_truth 1 = z := ⟨_, rfl⟩
            try rw [hg46] at e
            refine mm_T.call (t := 236) (as := [(.int 1)]) (f' := (231, [some (.int x0), some (.int x1), some (.int x2)], [])) rfl (tX12_truth (d + 0) 1 I J rv sp rr w nw g46 hg46) (fun v h hq => ?_)
            obtain ⟨rfl, rfl⟩ := hq
            cases e
            exact mm_T.ret rfl ⟨rfl, rfl⟩
        · rw [if_neg h261] at e
          refine mm_T.seg (f' := (228, [some (.int x0), some (.int x1), some (.int x2)], [(.int 1)])) (h' := (107, I, J, mm_rf rv sp rr w nw)) 2 rfl ?_
          obtain ⟨g47, hg47⟩ : ∃ z, fX12_truth 1 = z := ⟨_, rfl⟩
          try rw [hg47] at e
          refine mm_T.call (t := 236) (as := [(.int 1)]) (f' := (231, [some (.int x0), some (.int x1), some (.int x2)], [])) rfl (tX12_truth (d + 0) 1 I J rv sp rr w nw g47 hg47) (fun v h hq => ?_)
          obtain ⟨rfl, rfl⟩ := hq
          cases e
          exact mm_T.ret rfl ⟨rfl, rfl⟩
      · rw [if_neg h260] at e
        by_cases h263 : x0 = 40
        · rw [if_pos h263] at e
          refine mm_T.step (f' := (215, [some (.int x0), some (.int x1), some (.int x2)], [])) (h' := (107, I, J, mm_rf rv sp rr w nw)) (by first | (rw [h263]; rfl) | exact absurd h263 (by decide)) ?_
          refine mm_T.seg (f' := (216, [some (.int x0), some (.int x1), some (.int x2)], [(.int x1)])) (h' := (107, I, J, mm_rf rv sp rr w nw)) 1 rfl ?_
          refine mm_T.br (c := x1 = 0) (a := ((219, [some (.int x0), some (.int x1), some (.int x2)], []), (107, I, J, mm_rf rv sp rr w nw))) (b := ((223, [some (.int x0), some (.int x1), some (.int x2)], []), (107, I, J, mm_rf rv sp rr w nw))) rfl (fun h264 => ?_) (fun h264 => ?_)
          · rw [if_pos h264] at e
            refine mm_T.seg (f' := (220, [some (.int x0), some (.int x1), some (.int x2)], [(.int x2)])) (h' := (107, I, J, mm_rf rv sp rr w nw)) 1 rfl ?_
            refine mm_T.br (c := x2 = 0) (a := ((227, [some (.int x0), some (.int x1), some (.int x2)], []), (107, I, J, mm_rf rv sp rr w nw))) (b := ((223, [some (.int x0), some (.int x1), some (.int x2)], []), (107, I, J, mm_rf rv sp rr w nw))) rfl (fun h265 => ?_) (fun h265 => ?_)
            · rw [if_pos h265] at e
              refine mm_T.seg (f' := (228, [some (.int x0), some (.int x1), some (.int x2)], [(.int 0)])) (h' := (107, I, J, mm_rf rv sp rr w nw)) 1 rfl ?_
              obtain ⟨g48, hg48⟩ : ∃ z, fX12_truth 0 = z := ⟨_, rfl⟩
              try rw [hg48] at e
              refine mm_T.call (t := 236) (as := [(.int 0)]) (f' := (231, [some (.int x0), some (.int x1), some (.int x2)], [])) rfl (tX12_truth (d + 0) 0 I J rv sp rr w nw g48 hg48) (fun v h hq => ?_)
              obtain ⟨rfl, rfl⟩ := hq
              cases e
              exact mm_T.ret rfl ⟨rfl, rfl⟩
            · rw [if_neg h265] at e
              refine mm_T.seg (f' := (228, [some (.int x0), some (.int x1), some (.int x2)], [(.int 1)])) (h' := (107, I, J, mm_rf rv sp rr w nw)) 2 rfl ?_
              obtain ⟨g49, hg49⟩ : ∃ z, fX12_truth 1 = z := ⟨_, rfl⟩
              try rw [hg49] at e
              refine mm_T.call (t := 236) (as := [(.int 1)]) (f' := (231, [some (.int x0), some (.int x1), some (.int x2)], [])) rfl (tX12_truth (d + 0) 1 I J rv sp rr w nw g49 hg49) (fun v h hq => ?_)
              obtain ⟨rfl, rfl⟩ := hq
              cases e
              exact mm_T.ret rfl ⟨rfl, rfl⟩
          · rw [if_neg h264] at e
            refine mm_T.seg (f' := (228, [some (.int x0), some (.int x1), some (.int x2)], [(.int 1)])) (h' := (107, I, J, mm_rf rv sp rr w nw)) 2 rfl ?_
            obtain ⟨g50, hg50⟩ : ∃ z, fX12_truth 1 = z := ⟨_, rfl⟩
            try rw [hg50] at e
            refine mm_T.call (t := 236) (as := [(.int 1)]) (f' := (231, [some (.int x0), some (.int x1), some (.int x2)], [])) rfl (tX12_truth (d + 0) 1 I J rv sp rr w nw g50 hg50) (fun v h hq => ?_)
            obtain ⟨rfl, rfl⟩ := hq
            cases e
            exact mm_T.ret rfl ⟨rfl, rfl⟩
        · rw [if_neg h263] at e
          by_cases h266 : x0 = 41
          · rw [if_pos h266] at e
            refine mm_T.step (f' := (215, [some (.int x0), some (.int x1), some (.int x2)], [])) (h' := (107, I, J, mm_rf rv sp rr w nw)) (by first | (rw [h266]; rfl) | exact absurd h266 (by decide)) ?_
            refine mm_T.seg (f' := (216, [some (.int x0), some (.int x1), some (.int x2)], [(.int x1)])) (h' := (107, I, J, mm_rf rv sp rr w nw)) 1 rfl ?_
            refine mm_T.br (c := x1 = 0) (a := ((219, [some (.int x0), some (.int x1), some (.int x2)], []), (107, I, J, mm_rf rv sp rr w nw))) (b := ((223, [some (.int x0), some (.int x1), some (.int x2)], []), (107, I, J, mm_rf rv sp rr w nw))) rfl (fun h267 => ?_) (fun h267 => ?_)
            · rw [if_pos h267] at e
              refine mm_T.seg (f' := (220, [some (.int x0), some (.int x1), some (.int x2)], [(.int x2)])) (h' := (107, I, J, mm_rf rv sp rr w nw)) 1 rfl ?_
              refine mm_T.br (c := x2 = 0) (a := ((227, [some (.int x0), some (.int x1), some (.int x2)], []), (107, I, J, mm_rf rv sp rr w nw))) (b := ((223, [some (.int x0), some (.int x1), some (.int x2)], []), (107, I, J, mm_rf rv sp rr w nw))) rfl (fun h268 => ?_) (fun h268 => ?_)
              · rw [if_pos h268] at e
                refine mm_T.seg (f' := (228, [some (.int x0), some (.int x1), some (.int x2)], [(.int 0)])) (h' := (107, I, J, mm_rf rv sp rr w nw)) 1 rfl ?_
                obtain ⟨g51, hg51⟩ : ∃ z, fX12_truth 0 = z := ⟨_, rfl⟩
                try rw [hg51] at e
                refine mm_T.call (t := 236) (as := [(.int 0)]) (f' := (231, [some (.int x0), some (.int x1), some (.int x2)], [])) rfl (tX12_truth (d + 0) 0 I J rv sp rr w nw g51 hg51) (fun v h hq => ?_)
                obtain ⟨rfl, rfl⟩ := hq
                cases e
                exact mm_T.ret rfl ⟨rfl, rfl⟩
              · rw [if_neg h268] at e
                refine mm_T.seg (f' := (228, [some (.int x0), some (.int x1), some (.int x2)], [(.int 1)])) (h' := (107, I, J, mm_rf rv sp rr w nw)) 2 rfl ?_
                obtain ⟨g52, hg52⟩ : ∃ z, fX12_truth 1 = z := ⟨_, rfl⟩
                try rw [hg52] at e
                refine mm_T.call (t := 236) (as := [(.int 1)]) (f' := (231, [some (.int x0), some (.int x1), some (.int x2)], [])) rfl (tX12_truth (d + 0) 1 I J rv sp rr w nw g52 hg52) (fun v h hq => ?_)
                obtain ⟨rfl, rfl⟩ := hq
                cases e
                exact mm_T.ret rfl ⟨rfl, rfl⟩
            · rw [if_neg h267] at e
              refine mm_T.seg (f' := (228, [some (.int x0), some (.int x1), some (.int x2)], [(.int 1)])) (h' := (107, I, J, mm_rf rv sp rr w nw)) 2 rfl ?_
              obtain ⟨g53, hg53⟩ : ∃ z, fX12_truth 1 = z := ⟨_, rfl⟩
              try rw [hg53] at e
              refine mm_T.call (t := 236) (as := [(.int 1)]) (f' := (231, [some (.int x0), some (.int x1), some (.int x2)], [])) rfl (tX12_truth (d + 0) 1 I J rv sp rr w nw g53 hg53) (fun v h hq => ?_)
              obtain ⟨rfl, rfl⟩ := hq
              cases e
              exact mm_T.ret rfl ⟨rfl, rfl⟩
          · rw [if_neg h266] at e
            by_cases h269 : x0 = 42
            · rw [if_pos h269] at e
              refine mm_T.step (f' := (128, [some (.int x0), some (.int x1), some (.int x2)], [])) (h' := (107, I, J, mm_rf rv sp rr w nw)) (by first | (rw [h269]; rfl) | exact absurd h269 (by decide)) ?_
              refine mm_T.seg (f' := (131, [some (.int x0), some (.int x1), some (.int x2)], [(.int (x1 * x2))])) (h' := (107, I, J, mm_rf rv sp rr w nw)) 3 rfl ?_
              cases e
              exact mm_T.ret rfl ⟨rfl, rfl⟩
            · rw [if_neg h269] at e
              by_cases h270 : x0 = 43
              · rw [if_pos h270] at e
                refine mm_T.step (f' := (120, [some (.int x0), some (.int x1), some (.int x2)], [])) (h' := (107, I, J, mm_rf rv sp rr w nw)) (by first | (rw [h270]; rfl) | exact absurd h270 (by decide)) ?_
                refine mm_T.seg (f' := (123, [some (.int x0), some (.int x1), some (.int x2)], [(.int (x1 + x2))])) (h' := (107, I, J, mm_rf rv sp rr w nw)) 3 rfl ?_
                cases e
                exact mm_T.ret rfl ⟨rfl, rfl⟩
              · rw [if_neg h270] at e
                by_cases h271 : x0 = 44
                · rw [if_pos h271] at e
                  refine mm_T.step (f' := (215, [some (.int x0), some (.int x1), some (.int x2)], [])) (h' := (107, I, J, mm_rf rv sp rr w nw)) (by first | (rw [h271]; rfl) | exact absurd h271 (by decide)) ?_
                  refine mm_T.seg (f' := (216, [some (.int x0), some (.int x1), some (.int x2)], [(.int x1)])) (h' := (107, I, J, mm_rf rv sp rr w nw)) 1 rfl ?_
                  refine mm_T.br (c := x1 = 0) (a := ((219, [some (.int x0), some (.int x1), some (.int x2)], []), (107, I, J, mm_rf rv sp rr w nw))) (b := ((223, [some (.int x0), some (.int x1), some (.int x2)], []), (107, I, J, mm_rf rv sp rr w nw))) rfl (fun h272 => ?_) (fun h272 => ?_)
                  · rw [if_pos h272] at e
                    refine mm_T.seg (f' := (220, [some (.int x0), some (.int x1), some (.int x2)], [(.int x2)])) (h' := (107, I, J, mm_rf rv sp rr w nw)) 1 rfl ?_
                    refine mm_T.br (c := x2 = 0) (a := ((227, [some (.int x0), some (.int x1), some (.int x2)], []), (107, I, J, mm_rf rv sp rr w nw))) (b := ((223, [some (.int x0), some (.int x1), some (.int x2)], []), (107, I, J, mm_rf rv sp rr w nw))) rfl (fun h273 => ?_) (fun h273 => ?_)
                    · rw [if_pos h273] at e
                      refine mm_T.seg (f' := (228, [some (.int x0), some (.int x1), some (.int x2)], [(.int 0)])) (h' := (107, I, J, mm_rf rv sp rr w nw)) 1 rfl ?_
                      obtain ⟨g54, hg54⟩ : ∃ z, fX12_truth 0 = z := ⟨_, rfl⟩
                      try rw [hg54] at e
                      refine mm_T.call (t := 236) (as := [(.int 0)]) (f' := (231, [some (.int x0), some (.int x1), some (.int x2)], [])) rfl (tX12_truth (d + 0) 0 I J rv sp rr w nw g54 hg54) (fun v h hq => ?_)
                      obtain ⟨rfl, rfl⟩ := hq
                      cases e
                      exact mm_T.ret rfl ⟨rfl, rfl⟩
                    · rw [if_neg h273] at e
                      refine mm_T.seg (f' := (228, [some (.int x0), some (.int x1), some (.int x2)], [(.int 1)])) (h' := (107, I, J, mm_rf rv sp rr w nw)) 2 rfl ?_
                      obtain ⟨g55, hg55⟩ : ∃ z, fX12_truth 1 = z := ⟨_, rfl⟩
                      try rw [hg55] at e
                      refine mm_T.call (t := 236) (as := [(.int 1)]) (f' := (231, [some (.int x0), some (.int x1), some (.int x2)], [])) rfl (tX12_truth (d + 0) 1 I J rv sp rr w nw g55 hg55) (fun v h hq => ?_)
                      obtain ⟨rfl, rfl⟩ := hq
                      cases e
                      exact mm_T.ret rfl ⟨rfl, rfl⟩
                  · rw [if_neg h272] at e
                    refine mm_T.seg (f' := (228, [some (.int x0), some (.int x1), some (.int x2)], [(.int 1)])) (h' := (107, I, J, mm_rf rv sp rr w nw)) 2 rfl ?_
                    obtain ⟨g56, hg56⟩ : ∃ z, fX12_truth 1 = z := ⟨_, rfl⟩
                    try rw [hg56] at e
                    refine mm_T.call (t := 236) (as := [(.int 1)]) (f' := (231, [some (.int x0), some (.int x1), some (.int x2)], [])) rfl (tX12_truth (d + 0) 1 I J rv sp rr w nw g56 hg56) (fun v h hq => ?_)
                    obtain ⟨rfl, rfl⟩ := hq
                    cases e
                    exact mm_T.ret rfl ⟨rfl, rfl⟩
                · rw [if_neg h271] at e
                  by_cases h274 : x0 = 45
                  · rw [if_pos h274] at e
                    refine mm_T.step (f' := (124, [some (.int x0), some (.int x1), some (.int x2)], [])) (h' := (107, I, J, mm_rf rv sp rr w nw)) (by first | (rw [h274]; rfl) | exact absurd h274 (by decide)) ?_
                    refine mm_T.seg (f' := (127, [some (.int x0), some (.int x1), some (.int x2)], [(.int (x1 - x2))])) (h' := (107, I, J, mm_rf rv sp rr w nw)) 3 rfl ?_
                    cases e
                    exact mm_T.ret rfl ⟨rfl, rfl⟩
                  · rw [if_neg h274] at e
                    by_cases h275 : x0 = 46
                    · rw [if_pos h275] at e
                      refine mm_T.step (f' := (215, [some (.int x0), some (.int x1), some (.int x2)], [])) (h' := (107, I, J, mm_rf rv sp rr w nw)) (by first | (rw [h275]; rfl) | exact absurd h275 (by decide)) ?_
                      refine mm_T.seg (f' := (216, [some (.int x0), some (.int x1), some (.int x2)], [(.int x1)])) (h' := (107, I, J, mm_rf rv sp rr w nw)) 1 rfl ?_
                      refine mm_T.br (c := x1 = 0) (a := ((219, [some (.int x0), some (.int x1), some (.int x2)], []), (107, I, J, mm_rf rv sp rr w nw))) (b := ((223, [some (.int x0), some (.int x1), some (.int x2)], []), (107, I, J, mm_rf rv sp rr w nw))) rfl (fun h276 => ?_) (fun h276 => ?_)
                      · rw [if_pos h276] at e
                        refine mm_T.seg (f' := (220, [some (.int x0), some (.int x1), some (.int x2)], [(.int x2)])) (h' := (107, I, J, mm_rf rv sp rr w nw)) 1 rfl ?_
                        refine mm_T.br (c := x2 = 0) (a := ((227, [some (.int x0), some (.int x1), some (.int x2)], []), (107, I, J, mm_rf rv sp rr w nw))) (b := ((223, [some (.int x0), some (.int x1), some (.int x2)], []), (107, I, J, mm_rf rv sp rr w nw))) rfl (fun h277 => ?_) (fun h277 => ?_)
                        · rw [if_pos h277] at e
                          refine mm_T.seg (f' := (228, [some (.int x0), some (.int x1), some (.int x2)], [(.int 0)])) (h' := (107, I, J, mm_rf rv sp rr w nw)) 1 rfl ?_
                          obtain ⟨g57, hg57⟩ : ∃ z, fX12_truth 0 = z := ⟨_, rfl⟩
                          try rw [hg57] at e
                          refine mm_T.call (t := 236) (as := [(.int 0)]) (f' := (231, [some (.int x0), some (.int x1), some (.int x2)], [])) rfl (tX12_truth (d + 0) 0 I J rv sp rr w nw g57 hg57) (fun v h hq => ?_)
                          obtain ⟨rfl, rfl⟩ := hq
                          cases e
                          exact mm_T.ret rfl ⟨rfl, rfl⟩
                        · rw [if_neg h277] at e
                          refine mm_T.seg (f' := (228, [some (.int x0), some (.int x1), some (.int x2)], [(.int 1)])) (h' := (107, I, J, mm_rf rv sp rr w nw)) 2 rfl ?_
                          obtain ⟨g58, hg58⟩ : ∃ z, fX12_truth 1 = z := ⟨_, rfl⟩
                          try rw [hg58] at e
                          refine mm_T.call (t := 236) (as := [(.int 1)]) (f' := (231, [some (.int x0), some (.int x1), some (.int x2)], [])) rfl (tX12_truth (d + 0) 1 I J rv sp rr w nw g58 hg58) (fun v h hq => ?_)
                          obtain ⟨rfl, rfl⟩ := hq
                          cases e
                          exact mm_T.ret rfl ⟨rfl, rfl⟩
                      · rw [if_neg h276] at e
                        refine mm_T.seg (f' := (228, [some (.int x0), some (.int x1), some (.int x2)], [(.int 1)])) (h' := (107, I, J, mm_rf rv sp rr w nw)) 2 rfl ?_
                        obtain ⟨g59, hg59⟩ : ∃ z, fX12_truth 1 = z := ⟨_, rfl⟩
                        try rw [hg59] at e
                        refine mm_T.call (t := 236) (as := [(.int 1)]) (f' := (231, [some (.int x0), some (.int x1), some (.int x2)], [])) rfl (tX12_truth (d + 0) 1 I J rv sp rr w nw g59 hg59) (fun v h hq => ?_)
                        obtain ⟨rfl, rfl⟩ := hq
                        cases e
                        exact mm_T.ret rfl ⟨rfl, rfl⟩
                    · rw [if_neg h275] at e
                      by_cases h278 : x0 = 47
                      · rw [if_pos h278] at e
                        refine mm_T.step (f' := (132, [some (.int x0), some (.int x1), some (.int x2)], [])) (h' := (107, I, J, mm_rf rv sp rr w nw)) (by first | (rw [h278]; rfl) | exact absurd h278 (by decide)) ?_
                        refine mm_T.seg (f' := (133, [some (.int x0), some (.int x1), some (.int x2)], [(.int x2)])) (h' := (107, I, J, mm_rf rv sp rr w nw)) 1 rfl ?_
                        refine mm_T.br (c := x2 = 0) (a := ((136, [some (.int x0), some (.int x1), some (.int x2)], []), (107, I, J, mm_rf rv sp rr w nw))) (b := ((140, [some (.int x0), some (.int x1), some (.int x2)], []), (107, I, J, mm_rf rv sp rr w nw))) rfl (fun h279 => ?_) (fun h279 => ?_)
                        · rw [if_pos h279] at e
                          refine mm_T.seg (f' := (143, [some (.int x0), some (.int x1), some (.int x2)], [(.int 0)])) (h' := (107, I, J, mm_rf rv sp rr w nw)) 2 rfl ?_
                          cases e
                          exact mm_T.ret rfl ⟨rfl, rfl⟩
                        · rw [if_neg h279] at e
                          refine mm_T.seg (f' := (142, [some (.int x0), some (.int x1), some (.int x2)], [(.int x2), (.int x1)])) (h' := (107, I, J, mm_rf rv sp rr w nw)) 2 rfl ?_
                          by_cases h280 : x2 = 0
                          · rw [if_pos h280] at e; cases e
                          rw [if_neg h280] at e
                          refine mm_T.guard (y := ((143, [some (.int x0), some (.int x1), some (.int x2)], [(.int (x1 / x2))]), (107, I, J, mm_rf rv sp rr w nw))) rfl h280 ?_
                          cases e
                          exact mm_T.ret rfl ⟨rfl, rfl⟩
                      · rw [if_neg h278] at e
                        by_cases h281 : x0 = 48
                        · rw [if_pos h281] at e
                          refine mm_T.step (f' := (215, [some (.int x0), some (.int x1), some (.int x2)], [])) (h' := (107, I, J, mm_rf rv sp rr w nw)) (by first | (rw [h281]; rfl) | exact absurd h281 (by decide)) ?_
                          refine mm_T.seg (f' := (216, [some (.int x0), some (.int x1), some (.int x2)], [(.int x1)])) (h' := (107, I, J, mm_rf rv sp rr w nw)) 1 rfl ?_
                          refine mm_T.br (c := x1 = 0) (a := ((219, [some (.int x0), some (.int x1), some (.int x2)], []), (107, I, J, mm_rf rv sp rr w nw))) (b := ((223, [some (.int x0), some (.int x1), some (.int x2)], []), (107, I, J, mm_rf rv sp rr w nw))) rfl (fun h282 => ?_) (fun h282 => ?_)
                          · rw [if_pos h282] at e
                            refine mm_T.seg (f' := (220, [some (.int x0), some (.int x1), some (.int x2)], [(.int x2)])) (h' := (107, I, J, mm_rf rv sp rr w nw)) 1 rfl ?_
                            refine mm_T.br (c := x2 = 0) (a := ((227, [some (.int x0), some (.int x1), some (.int x2)], []), (107, I, J, mm_rf rv sp rr w nw))) (b := ((223, [some (.int x0), some (.int x1), some (.int x2)], []), (107, I, J, mm_rf rv sp rr w nw))) rfl (fun h283 => ?_) (fun h283 => ?_)
                            · rw [if_pos h283] at e
                              refine mm_T.seg (f' := (228, [some (.int x0), some (.int x1), some (.int x2)], [(.int 0)])) (h' := (107, I, J, mm_rf rv sp rr w nw)) 1 rfl ?_
                              obtain ⟨g60, hg60⟩ : ∃ z, fX12_truth 0 = z := ⟨_, rfl⟩
                              try rw [hg60] at e
                              refine mm_T.call (t := 236) (as := [(.int 0)]) (f' := (231, [some (.int x0), some (.int x1), some (.int x2)], [])) rfl (tX12_truth (d + 0) 0 I J rv sp rr w nw g60 hg60) (fun v h hq => ?_)
                              obtain ⟨rfl, rfl⟩ := hq
                              cases e
                              exact mm_T.ret rfl ⟨rfl, rfl⟩
                            · rw [if_neg h283] at e
                              refine mm_T.seg (f' := (228, [some (.int x0), some (.int x1), some (.int x2)], [(.int 1)])) (h' := (107, I, J, mm_rf rv sp rr w nw)) 2 rfl ?_
                              obtain ⟨g61, hg61⟩ : ∃ z, fX12_truth 1 = z := ⟨_, rfl⟩
                              try rw [hg61] at e
                              refine mm_T.call (t := 236) (as := [(.int 1)]) (f' := (231, [some (.int x0), some (.int x1), some (.int x2)], [])) rfl (tX12_truth (d + 0) 1 I J rv sp rr w nw g61 hg61) (fun v h hq => ?_)
                              obtain ⟨rfl, rfl⟩ := hq
                              cases e
                              exact mm_T.ret rfl ⟨rfl, rfl⟩
                          · rw [if_neg h282] at e
                            refine mm_T.seg (f' := (228, [some (.int x0), some (.int x1), some (.int x2)], [(.int 1)])) (h' := (107, I, J, mm_rf rv sp rr w nw)) 2 rfl ?_
                            obtain ⟨g62, hg62⟩ : ∃ z, fX12_truth 1 = z := ⟨_, rfl⟩
                            try rw [hg62] at e
                            refine mm_T.call (t := 236) (as := [(.int 1)]) (f' := (231, [some (.int x0), some (.int x1), some (.int x2)], [])) rfl (tX12_truth (d + 0) 1 I J rv sp rr w nw g62 hg62) (fun v h hq => ?_)
                            obtain ⟨rfl, rfl⟩ := hq
                            cases e
                            exact mm_T.ret rfl ⟨rfl, rfl⟩
                        · rw [if_neg h281] at e
                          by_cases h284 : x0 = 49
                          · rw [if_pos h284] at e
                            refine mm_T.step (f' := (215, [some (.int x0), some (.int x1), some (.int x2)], [])) (h' := (107, I, J, mm_rf rv sp rr w nw)) (by first | (rw [h284]; rfl) | exact absurd h284 (by decide)) ?_
                            refine mm_T.seg (f' := (216, [some (.int x0), some (.int x1), some (.int x2)], [(.int x1)])) (h' := (107, I, J, mm_rf rv sp rr w nw)) 1 rfl ?_
                            refine mm_T.br (c := x1 = 0) (a := ((219, [some (.int x0), some (.int x1), some (.int x2)], []), (107, I, J, mm_rf rv sp rr w nw))) (b := ((223, [some (.int x0), some (.int x1), some (.int x2)], []), (107, I, J, mm_rf rv sp rr w nw))) rfl (fun h285 => ?_) (fun h285 => ?_)
                            · rw [if_pos h285] at e
                              refine mm_T.seg (f' := (220, [some (.int x0), some (.int x1), some (.int x2)], [(.int x2)])) (h' := (107, I, J, mm_rf rv sp rr w nw)) 1 rfl ?_
                              refine mm_T.br (c := x2 = 0) (a := ((227, [some (.int x0), some (.int x1), some (.int x2)], []), (107, I, J, mm_rf rv sp rr w nw))) (b := ((223, [some (.int x0), some (.int x1), some (.int x2)], []), (107, I, J, mm_rf rv sp rr w nw))) rfl (fun h286 => ?_) (fun h286 => ?_)
                              · rw [if_pos h286] at e
                                refine mm_T.seg (f' := (228, [some (.int x0), some (.int x1), some (.int x2)], [(.int 0)])) (h' := (107, I, J, mm_rf rv sp rr w nw)) 1 rfl ?_
                                obtain ⟨g63, hg63⟩ : ∃ z, fX12_truth 0 = z := ⟨_, rfl⟩
                                try rw [hg63] at e
                                refine mm_T.call (t := 236) (as := [(.int 0)]) (f' := (231, [some (.int x0), some (.int x1), some (.int x2)], [])) rfl (tX12_truth (d + 0) 0 I J rv sp rr w nw g63 hg63) (fun v h hq => ?_)
                                obtain ⟨rfl, rfl⟩ := hq
                                cases e
                                exact mm_T.ret rfl ⟨rfl, rfl⟩
                              · rw [if_neg h286] at e
                                refine mm_T.seg (f' := (228, [some (.int x0), some (.int x1), some (.int x2)], [(.int 1)])) (h' := (107, I, J, mm_rf rv sp rr w nw)) 2 rfl ?_
                                obtain ⟨g64, hg64⟩ : ∃ z, fX12_truth 1 = z := ⟨_, rfl⟩
                                try rw [hg64] at e
                                refine mm_T.call (t := 236) (as := [(.int 1)]) (f' := (231, [some (.int x0), some (.int x1), some (.int x2)], [])) rfl (tX12_truth (d + 0) 1 I J rv sp rr w nw g64 hg64) (fun v h hq => ?_)
                                obtain ⟨rfl, rfl⟩ := hq
                                cases e
                                exact mm_T.ret rfl ⟨rfl, rfl⟩
                            · rw [if_neg h285] at e
                              refine mm_T.seg (f' := (228, [some (.int x0), some (.int x1), some (.int x2)], [(.int 1)])) (h' := (107, I, J, mm_rf rv sp rr w nw)) 2 rfl ?_
                              obtain ⟨g65, hg65⟩ : ∃ z, fX12_truth 1 = z := ⟨_, rfl⟩
                              try rw [hg65] at e
                              refine mm_T.call (t := 236) (as := [(.int 1)]) (f' := (231, [some (.int x0), some (.int x1), some (.int x2)], [])) rfl (tX12_truth (d + 0) 1 I J rv sp rr w nw g65 hg65) (fun v h hq => ?_)
                              obtain ⟨rfl, rfl⟩ := hq
                              cases e
                              exact mm_T.ret rfl ⟨rfl, rfl⟩
                          · rw [if_neg h284] at e
                            by_cases h287 : x0 = 50
                            · rw [if_pos h287] at e
                              refine mm_T.step (f' := (215, [some (.int x0), some (.int x1), some (.int x2)], [])) (h' := (107, I, J, mm_rf rv sp rr w nw)) (by first | (rw [h287]; rfl) | exact absurd h287 (by decide)) ?_
                              refine mm_T.seg (f' := (216, [some (.int x0), some (.int x1), some (.int x2)], [(.int x1)])) (h' := (107, I, J, mm_rf rv sp rr w nw)) 1 rfl ?_
                              refine mm_T.br (c := x1 = 0) (a := ((219, [some (.int x0), some (.int x1), some (.int x2)], []), (107, I, J, mm_rf rv sp rr w nw))) (b := ((223, [some (.int x0), some (.int x1), some (.int x2)], []), (107, I, J, mm_rf rv sp rr w nw))) rfl (fun h288 => ?_) (fun h288 => ?_)
                              · rw [if_pos h288] at e
                                refine mm_T.seg (f' := (220, [some (.int x0), some (.int x1), some (.int x2)], [(.int x2)])) (h' := (107, I, J, mm_rf rv sp rr w nw)) 1 rfl ?_
                                refine mm_T.br (c := x2 = 0) (a := ((227, [some (.int x0), some (.int x1), some (.int x2)], []), (107, I, J, mm_rf rv sp rr w nw))) (b := ((223, [some (.int x0), some (.int x1), some (.int x2)], []), (107, I, J, mm_rf rv sp rr w nw))) rfl (fun h289 => ?_) (fun h289 => ?_)
                                · rw [if_pos h289] at e
                                  refine mm_T.seg (f' := (228, [some (.int x0), some (.int x1), some (.int x2)], [(.int 0)])) (h' := (107, I, J, mm_rf rv sp rr w nw)) 1 rfl ?_
                                  obtain ⟨g66, hg66⟩ : ∃ z, fX12_truth 0 = z := ⟨_, rfl⟩
                                  try rw [hg66] at e
                                  refine mm_T.call (t := 236) (as := [(.int 0)]) (f' := (231, [some (.int x0), some (.int x1), some (.int x2)], [])) rfl (tX12_truth (d + 0) 0 I J rv sp rr w nw g66 hg66) (fun v h hq => ?_)
                                  obtain ⟨rfl, rfl⟩ := hq
                                  cases e
                                  exact mm_T.ret rfl ⟨rfl, rfl⟩
                                · rw [if_neg h289] at e
                                  refine mm_T.seg (f' := (228, [some (.int x0), some (.int x1), some (.int x2)], [(.int 1)])) (h' := (107, I, J, mm_rf rv sp rr w nw)) 2 rfl ?_
                                  obtain ⟨g67, hg67⟩ : ∃ z, fX12_truth 1 = z := ⟨_, rfl⟩
                                  try rw [hg67] at e
                                  refine mm_T.call (t := 236) (as := [(.int 1)]) (f' := (231, [some (.int x0), some (.int x1), some (.int x2)], [])) rfl (tX12_truth (d + 0) 1 I J rv sp rr w nw g67 hg67) (fun v h hq => ?_)
                                  obtain ⟨rfl, rfl⟩ := hq
                                  cases e
                                  exact mm_T.ret rfl ⟨rfl, rfl⟩
                              · rw [if_neg h288] at e
                                refine mm_T.seg (f' := (228, [some (.int x0), some (.int x1), some (.int x2)], [(.int 1)])) (h' := (107, I, J, mm_rf rv sp rr w nw)) 2 rfl ?_
                                obtain ⟨g68, hg68⟩ : ∃ z, fX12_truth 1 = z := ⟨_, rfl⟩
                                try rw [hg68] at e
                                refine mm_T.call (t := 236) (as := [(.int 1)]) (f' := (231, [some (.int x0), some (.int x1), some (.int x2)], [])) rfl (tX12_truth (d + 0) 1 I J rv sp rr w nw g68 hg68) (fun v h hq => ?_)
                                obtain ⟨rfl, rfl⟩ := hq
                                cases e
                                exact mm_T.ret rfl ⟨rfl, rfl⟩
                            · rw [if_neg h287] at e
                              by_cases h290 : x0 = 51
                              · rw [if_pos h290] at e
                                refine mm_T.step (f' := (215, [some (.int x0), some (.int x1), some (.int x2)], [])) (h' := (107, I, J, mm_rf rv sp rr w nw)) (by first | (rw [h290]; rfl) | exact absurd h290 (by decide)) ?_
                                refine mm_T.seg (f' := (216, [some (.int x0), some (.int x1), some (.int x2)], [(.int x1)])) (h' := (107, I, J, mm_rf rv sp rr w nw)) 1 rfl ?_
                                refine mm_T.br (c := x1 = 0) (a := ((219, [some (.int x0), some (.int x1), some (.int x2)], []), (107, I, J, mm_rf rv sp rr w nw))) (b := ((223, [some (.int x0), some (.int x1), some (.int x2)], []), (107, I, J, mm_rf rv sp rr w nw))) rfl (fun h291 => ?_) (fun h291 => ?_)
                                · rw [if_pos h291] at e
                                  refine mm_T.seg (f' := (220, [some (.int x0), some (.int x1), some (.int x2)], [(.int x2)])) (h' := (107, I, J, mm_rf rv sp rr w nw)) 1 rfl ?_
                                  refine mm_T.br (c := x2 = 0) (a := ((227, [some (.int x0), some (.int x1), some (.int x2)], []), (107, I, J, mm_rf rv sp rr w nw))) (b := ((223, [some (.int x0), some (.int x1), some (.int x2)], []), (107, I, J, mm_rf rv sp rr w nw))) rfl (fun h292 => ?_) (fun h292 => ?_)
                                  · rw [if_pos h292] at e
                                    refine mm_T.seg (f' := (228, [some (.int x0), some (.int x1), some (.int x2)], [(.int 0)])) (h' := (107, I, J, mm_rf rv sp rr w nw)) 1 rfl ?_
                                    obtain ⟨g69, hg69⟩ : ∃ z, fX12_truth 0 = z := ⟨_, rfl⟩
                                    try rw [hg69] at e
                                    refine mm_T.call (t := 236) (as := [(.int 0)]) (f' := (231, [some (.int x0), some (.int x1), some (.int x2)], [])) rfl (tX12_truth (d + 0) 0 I J rv sp rr w nw g69 hg69) (fun v h hq => ?_)
                                    obtain ⟨rfl, rfl⟩ := hq
                                    cases e
                                    exact mm_T.ret rfl ⟨rfl, rfl⟩
                                  · rw [if_neg h292] at e
                                    refine mm_T.seg (f' := (228, [some (.int x0), some (.int x1), some (.int x2)], [(.int 1)])) (h' := (107, I, J, mm_rf rv sp rr w nw)) 2 rfl ?_
                                    obtain ⟨g70, hg70⟩ : ∃ z, fX12_truth 1 = z := ⟨_, rfl⟩
                                    try rw [hg70] at e
                                    refine mm_T.call (t := 236) (as := [(.int 1)]) (f' := (231, [some (.int x0), some (.int x1), some (.int x2)], [])) rfl (tX12_truth (d + 0) 1 I J rv sp rr w nw g70 hg70) (fun v h hq => ?_)
                                    obtain ⟨rfl, rfl⟩ := hq
                                    cases e
                                    exact mm_T.ret rfl ⟨rfl, rfl⟩
                                · rw [if_neg h291] at e
                                  refine mm_T.seg (f' := (228, [some (.int x0), some (.int x1), some (.int x2)], [(.int 1)])) (h' := (107, I, J, mm_rf rv sp rr w nw)) 2 rfl ?_
                                  obtain ⟨g71, hg71⟩ : ∃ z, fX12_truth 1 = z := ⟨_, rfl⟩
                                  try rw [hg71] at e
                                  refine mm_T.call (t := 236) (as := [(.int 1)]) (f' := (231, [some (.int x0), some (.int x1), some (.int x2)], [])) rfl (tX12_truth (d + 0) 1 I J rv sp rr w nw g71 hg71) (fun v h hq => ?_)
                                  obtain ⟨rfl, rfl⟩ := hq
                                  cases e
                                  exact mm_T.ret rfl ⟨rfl, rfl⟩
                              · rw [if_neg h290] at e
                                by_cases h293 : x0 = 52
                                · rw [if_pos h293] at e
                                  refine mm_T.step (f' := (215, [some (.int x0), some (.int x1), some (.int x2)], [])) (h' := (107, I, J, mm_rf rv sp rr w nw)) (by first | (rw [h293]; rfl) | exact absurd h293 (by decide)) ?_
                                  refine mm_T.seg (f' := (216, [some (.int x0), some (.int x1), some (.int x2)], [(.int x1)])) (h' := (107, I, J, mm_rf rv sp rr w nw)) 1 rfl ?_
                                  refine mm_T.br (c := x1 = 0) (a := ((219, [some (.int x0), some (.int x1), some (.int x2)], []), (107, I, J, mm_rf rv sp rr w nw))) (b := ((223, [some (.int x0), some (.int x1), some (.int x2)], []), (107, I, J, mm_rf rv sp rr w nw))) rfl (fun h294 => ?_) (fun h294 => ?_)
                                  · rw [if_pos h294] at e
                                    refine mm_T.seg (f' := (220, [some (.int x0), some (.int x1), some (.int x2)], [(.int x2)])) (h' := (107, I, J, mm_rf rv sp rr w nw)) 1 rfl ?_
                                    refine mm_T.br (c := x2 = 0) (a := ((227, [some (.int x0), some (.int x1), some (.int x2)], []), (107, I, J, mm_rf rv sp rr w nw))) (b := ((223, [some (.int x0), some (.int x1), some (.int x2)], []), (107, I, J, mm_rf rv sp rr w nw))) rfl (fun h295 => ?_) (fun h295 => ?_)
                                    · rw [if_pos h295] at e
                                      refine mm_T.seg (f' := (228, [some (.int x0), some (.int x1), some (.int x2)], [(.int 0)])) (h' := (107, I, J, mm_rf rv sp rr w nw)) 1 rfl ?_
                                      obtain ⟨g72, hg72⟩ : ∃ z, fX12_truth 0 = z := ⟨_, rfl⟩
                                      try rw [hg72] at e
                                      refine mm_T.call (t := 236) (as := [(.int 0)]) (f' := (231, [some (.int x0), some (.int x1), some (.int x2)], [])) rfl (tX12_truth (d + 0) 0 I J rv sp rr w nw g72 hg72) (fun v h hq => ?_)
                                      obtain ⟨rfl, rfl⟩ := hq
                                      cases e
                                      exact mm_T.ret rfl ⟨rfl, rfl⟩
                                    · rw [if_neg h295] at e
                                      refine mm_T.seg (f' := (228, [some (.int x0), some (.int x1), some (.int x2)], [(.int 1)])) (h' := (107, I, J, mm_rf rv sp rr w nw)) 2 rfl ?_
                                      obtain ⟨g73, hg73⟩ : ∃ z, fX12_truth 1 = z := ⟨_, rfl⟩
                                      try rw [hg73] at e
                                      refine mm_T.call (t := 236) (as := [(.int 1)]) (f' := (231, [some (.int x0), some (.int x1), some (.int x2)], [])) rfl (tX12_truth (d + 0) 1 I J rv sp rr w nw g73 hg73) (fun v h hq => ?_)
                                      obtain ⟨rfl, rfl⟩ := hq
                                      cases e
                                      exact mm_T.ret rfl ⟨rfl, rfl⟩
                                  · rw [if_neg h294] at e
                                    refine mm_T.seg (f' := (228, [some (.int x0), some (.int x1), some (.int x2)], [(.int 1)])) (h' := (107, I, J, mm_rf rv sp rr w nw)) 2 rfl ?_
                                    obtain ⟨g74, hg74⟩ : ∃ z, fX12_truth 1 = z := ⟨_, rfl⟩
                                    try rw [hg74] at e
                                    refine mm_T.call (t := 236) (as := [(.int 1)]) (f' := (231, [some (.int x0), some (.int x1), some (.int x2)], [])) rfl (tX12_truth (d + 0) 1 I J rv sp rr w nw g74 hg74) (fun v h hq => ?_)
                                    obtain ⟨rfl, rfl⟩ := hq
                                    cases e
                                    exact mm_T.ret rfl ⟨rfl, rfl⟩
                                · rw [if_neg h293] at e
                                  by_cases h296 : x0 = 53
                                  · rw [if_pos h296] at e
                                    refine mm_T.step (f' := (215, [some (.int x0), some (.int x1), some (.int x2)], [])) (h' := (107, I, J, mm_rf rv sp rr w nw)) (by first | (rw [h296]; rfl) | exact absurd h296 (by decide)) ?_
                                    refine mm_T.seg (f' := (216, [some (.int x0), some (.int x1), some (.int x2)], [(.int x1)])) (h' := (107, I, J, mm_rf rv sp rr w nw)) 1 rfl ?_
                                    refine mm_T.br (c := x1 = 0) (a := ((219, [some (.int x0), some (.int x1), some (.int x2)], []), (107, I, J, mm_rf rv sp rr w nw))) (b := ((223, [some (.int x0), some (.int x1), some (.int x2)], []), (107, I, J, mm_rf rv sp rr w nw))) rfl (fun h297 => ?_) (fun h297 => ?_)
                                    · rw [if_pos h297] at e
                                      refine mm_T.seg (f' := (220, [some (.int x0), some (.int x1), some (.int x2)], [(.int x2)])) (h' := (107, I, J, mm_rf rv sp rr w nw)) 1 rfl ?_
                                      refine mm_T.br (c := x2 = 0) (a := ((227, [some (.int x0), some (.int x1), some (.int x2)], []), (107, I, J, mm_rf rv sp rr w nw))) (b := ((223, [some (.int x0), some (.int x1), some (.int x2)], []), (107, I, J, mm_rf rv sp rr w nw))) rfl (fun h298 => ?_) (fun h298 => ?_)
                                      · rw [if_pos h298] at e
                                        refine mm_T.seg (f' := (228, [some (.int x0), some (.int x1), some (.int x2)], [(.int 0)])) (h' := (107, I, J, mm_rf rv sp rr w nw)) 1 rfl ?_
                                        obtain ⟨g75, hg75⟩ : ∃ z, fX12_truth 0 = z := ⟨_, rfl⟩
                                        try rw [hg75] at e
                                        refine mm_T.call (t := 236) (as := [(.int 0)]) (f' := (231, [some (.int x0), some (.int x1), some (.int x2)], [])) rfl (tX12_truth (d + 0) 0 I J rv sp rr w nw g75 hg75) (fun v h hq => ?_)
                                        obtain ⟨rfl, rfl⟩ := hq
                                        cases e
                                        exact mm_T.ret rfl ⟨rfl, rfl⟩
                                      · rw [if_neg h298] at e
                                        refine mm_T.seg (f' := (228, [some (.int x0), some (.int x1), some (.int x2)], [(.int 1)])) (h' := (107, I, J, mm_rf rv sp rr w nw)) 2 rfl ?_
                                        obtain ⟨g76, hg76⟩ : ∃ z, fX12_truth 1 = z := ⟨_, rfl⟩
                                        try rw [hg76] at e
                                        refine mm_T.call (t := 236) (as := [(.int 1)]) (f' := (231, [some (.int x0), some (.int x1), some (.int x2)], [])) rfl (tX12_truth (d + 0) 1 I J rv sp rr w nw g76 hg76) (fun v h hq => ?_)
                                        obtain ⟨rfl, rfl⟩ := hq
                                        cases e
                                        exact mm_T.ret rfl ⟨rfl, rfl⟩
                                    · rw [if_neg h297] at e
                                      refine mm_T.seg (f' := (228, [some (.int x0), some (.int x1), some (.int x2)], [(.int 1)])) (h' := (107, I, J, mm_rf rv sp rr w nw)) 2 rfl ?_
                                      obtain ⟨g77, hg77⟩ : ∃ z, fX12_truth 1 = z := ⟨_, rfl⟩
                                      try rw [hg77] at e
                                      refine mm_T.call (t := 236) (as := [(.int 1)]) (f' := (231, [some (.int x0), some (.int x1), some (.int x2)], [])) rfl (tX12_truth (d + 0) 1 I J rv sp rr w nw g77 hg77) (fun v h hq => ?_)
                                      obtain ⟨rfl, rfl⟩ := hq
                                      cases e
                                      exact mm_T.ret rfl ⟨rfl, rfl⟩
                                  · rw [if_neg h296] at e
                                    by_cases h299 : x0 = 54
                                    · rw [if_pos h299] at e
                                      refine mm_T.step (f' := (215, [some (.int x0), some (.int x1), some (.int x2)], [])) (h' := (107, I, J, mm_rf rv sp rr w nw)) (by first | (rw [h299]; rfl) | exact absurd h299 (by decide)) ?_
                                      refine mm_T.seg (f' := (216, [some (.int x0), some (.int x1), some (.int x2)], [(.int x1)])) (h' := (107, I, J, mm_rf rv sp rr w nw)) 1 rfl ?_
                                      refine mm_T.br (c := x1 = 0) (a := ((219, [some (.int x0), some (.int x1), some (.int x2)], []), (107, I, J, mm_rf rv sp rr w nw))) (b := ((223, [some (.int x0), some (.int x1), some (.int x2)], []), (107, I, J, mm_rf rv sp rr w nw))) rfl (fun h300 => ?_) (fun h300 => ?_)
                                      · rw [if_pos h300] at e
                                        refine mm_T.seg (f' := (220, [some (.int x0), some (.int x1), some (.int x2)], [(.int x2)])) (h' := (107, I, J, mm_rf rv sp rr w nw)) 1 rfl ?_
                                        refine mm_T.br (c := x2 = 0) (a := ((227, [some (.int x0), some (.int x1), some (.int x2)], []), (107, I, J, mm_rf rv sp rr w nw))) (b := ((223, [some (.int x0), some (.int x1), some (.int x2)], []), (107, I, J, mm_rf rv sp rr w nw))) rfl (fun h301 => ?_) (fun h301 => ?_)
                                        · rw [if_pos h301] at e
                                          refine mm_T.seg (f' := (228, [some (.int x0), some (.int x1), some (.int x2)], [(.int 0)])) (h' := (107, I, J, mm_rf rv sp rr w nw)) 1 rfl ?_
                                          obtain ⟨g78, hg78⟩ : ∃ z, fX12_truth 0 = z := ⟨_, rfl⟩
                                          try rw [hg78] at e
                                          refine mm_T.call (t := 236) (as := [(.int 0)]) (f' := (231, [some (.int x0), some (.int x1), some (.int x2)], [])) rfl (tX12_truth (d + 0) 0 I J rv sp rr w nw g78 hg78) (fun v h hq => ?_)
                                          obtain ⟨rfl, rfl⟩ := hq
                                          cases e
                                          exact mm_T.ret rfl ⟨rfl, rfl⟩
                                        · rw [if_neg h301] at e
                                          refine mm_T.seg (f' := (228, [some (.int x0), some (.int x1), some (.int x2)], [(.int 1)])) (h' := (107, I, J, mm_rf rv sp rr w nw)) 2 rfl ?_
                                          obtain ⟨g79, hg79⟩ : ∃ z, fX12_truth 1 = z := ⟨_, rfl⟩
                                          try rw [hg79] at e
                                          refine mm_T.call (t := 236) (as := [(.int 1)]) (f' := (231, [some (.int x0), some (.int x1), some (.int x2)], [])) rfl (tX12_truth (d + 0) 1 I J rv sp rr w nw g79 hg79) (fun v h hq => ?_)
                                          obtain ⟨rfl, rfl⟩ := hq
                                          cases e
                                          exact mm_T.ret rfl ⟨rfl, rfl⟩
                                      · rw [if_neg h300] at e
                                        refine mm_T.seg (f' := (228, [some (.int x0), some (.int x1), some (.int x2)], [(.int 1)])) (h' := (107, I, J, mm_rf rv sp rr w nw)) 2 rfl ?_
                                        obtain ⟨g80, hg80⟩ : ∃ z, fX12_truth 1 = z := ⟨_, rfl⟩
                                        try rw [hg80] at e
                                        refine mm_T.call (t := 236) (as := [(.int 1)]) (f' := (231, [some (.int x0), some (.int x1), some (.int x2)], [])) rfl (tX12_truth (d + 0) 1 I J rv sp rr w nw g80 hg80) (fun v h hq => ?_)
                                        obtain ⟨rfl, rfl⟩ := hq
                                        cases e
                                        exact mm_T.ret rfl ⟨rfl, rfl⟩
                                    · rw [if_neg h299] at e
                                      by_cases h302 : x0 = 55
                                      · rw [if_pos h302] at e
                                        refine mm_T.step (f' := (215, [some (.int x0), some (.int x1), some (.int x2)], [])) (h' := (107, I, J, mm_rf rv sp rr w nw)) (by first | (rw [h302]; rfl) | exact absurd h302 (by decide)) ?_
                                        refine mm_T.seg (f' := (216, [some (.int x0), some (.int x1), some (.int x2)], [(.int x1)])) (h' := (107, I, J, mm_rf rv sp rr w nw)) 1 rfl ?_
                                        refine mm_T.br (c := x1 = 0) (a := ((219, [some (.int x0), some (.int x1), some (.int x2)], []), (107, I, J, mm_rf rv sp rr w nw))) (b := ((223, [some (.int x0), some (.int x1), some (.int x2)], []), (107, I, J, mm_rf rv sp rr w nw))) rfl (fun h303 => ?_) (fun h303 => ?_)
                                        · rw [if_pos h303] at e
                                          refine mm_T.seg (f' := (220, [some (.int x0), some (.int x1), some (.int x2)], [(.int x2)])) (h' := (107, I, J, mm_rf rv sp rr w nw)) 1 rfl ?_
                                          refine mm_T.br (c := x2 = 0) (a := ((227, [some (.int x0), some (.int x1), some (.int x2)], []), (107, I, J, mm_rf rv sp rr w nw))) (b := ((223, [some (.int x0), some (.int x1), some (.int x2)], []), (107, I, J, mm_rf rv sp rr w nw))) rfl (fun h304 => ?_) (fun h304 => ?_)
                                          · rw [if_pos h304] at e
                                            refine mm_T.seg (f' := (228, [some (.int x0), some (.int x1), some (.int x2)], [(.int 0)])) (h' := (107, I, J, mm_rf rv sp rr w nw)) 1 rfl ?_
                                            obtain ⟨g81, hg81⟩ : ∃ z, fX12_truth 0 = z := ⟨_, rfl⟩
                                            try rw [hg81] at e
                                            refine mm_T.call (t := 236) (as := [(.int 0)]) (f' := (231, [some (.int x0), some (.int x1), some (.int x2)], [])) rfl (tX12_truth (d + 0) 0 I J rv sp rr w nw g81 hg81) (fun v h hq => ?_)
                                            obtain ⟨rfl, rfl⟩ := hq
                                            cases e
                                            exact mm_T.ret rfl ⟨rfl, rfl⟩
                                          · rw [if_neg h304] at e
                                            refine mm_T.seg (f' := (228, [some (.int x0), some (.int x1), some (.int x2)], [(.int 1)])) (h' := (107, I, J, mm_rf rv sp rr w nw)) 2 rfl ?_
                                            obtain ⟨g82, hg82⟩ : ∃ z, fX12_truth 1 = z := ⟨_, rfl⟩
                                            try rw [hg82] at e
                                            refine mm_T.call (t := 236) (as := [(.int 1)]) (f' := (231, [some (.int x0), some (.int x1), some (.int x2)], [])) rfl (tX12_truth (d + 0) 1 I J rv sp rr w nw g82 hg82) (fun v h hq => ?_)
                                            obtain ⟨rfl, rfl⟩ := hq
                                            cases e
                                            exact mm_T.ret rfl ⟨rfl, rfl⟩
                                        · rw [if_neg h303] at e
                                          refine mm_T.seg (f' := (228, [some (.int x0), some (.int x1), some (.int x2)], [(.int 1)])) (h' := (107, I, J, mm_rf rv sp rr w nw)) 2 rfl ?_
                                          obtain ⟨g83, hg83⟩ : ∃ z, fX12_truth 1 = z := ⟨_, rfl⟩
                                          try rw [hg83] at e
                                          refine mm_T.call (t := 236) (as := [(.int 1)]) (f' := (231, [some (.int x0), some (.int x1), some (.int x2)], [])) rfl (tX12_truth (d + 0) 1 I J rv sp rr w nw g83 hg83) (fun v h hq => ?_)
                                          obtain ⟨rfl, rfl⟩ := hq
                                          cases e
                                          exact mm_T.ret rfl ⟨rfl, rfl⟩
                                      · rw [if_neg h302] at e
                                        by_cases h305 : x0 = 56
                                        · rw [if_pos h305] at e
                                          refine mm_T.step (f' := (215, [some (.int x0), some (.int x1), some (.int x2)], [])) (h' := (107, I, J, mm_rf rv sp rr w nw)) (by first | (rw [h305]; rfl) | exact absurd h305 (by decide)) ?_
                                          refine mm_T.seg (f' := (216, [some (.int x0), some (.int x1), some (.int x2)], [(.int x1)])) (h' := (107, I, J, mm_rf rv sp rr w nw)) 1 rfl ?_
                                          refine mm_T.br (c := x1 = 0) (a := ((219, [some (.int x0), some (.int x1), some (.int x2)], []), (107, I, J, mm_rf rv sp rr w nw))) (b := ((223, [some (.int x0), some (.int x1), some (.int x2)], []), (107, I, J, mm_rf rv sp rr w nw))) rfl (fun h306 => ?_) (fun h306 => ?_)
                                          · rw [if_pos h306] at e
                                            refine mm_T.seg (f' := (220, [some (.int x0), some (.int x1), some (.int x2)], [(.int x2)])) (h' := (107, I, J, mm_rf rv sp rr w nw)) 1 rfl ?_
                                            refine mm_T.br (c := x2 = 0) (a := ((227, [some (.int x0), some (.int x1), some (.int x2)], []), (107, I, J, mm_rf rv sp rr w nw))) (b := ((223, [some (.int x0), some (.int x1), some (.int x2)], []), (107, I, J, mm_rf rv sp rr w nw))) rfl (fun h307 => ?_) (fun h307 => ?_)
                                            · rw [if_pos h307] at e
                                              refine mm_T.seg (f' := (228, [some (.int x0), some (.int x1), some (.int x2)], [(.int 0)])) (h' := (107, I, J, mm_rf rv sp rr w nw)) 1 rfl ?_
                                              obtain ⟨g84, hg84⟩ : ∃ z, fX12_truth 0 = z := ⟨_, rfl⟩
                                              try rw [hg84] at e
                                              refine mm_T.call (t := 236) (as := [(.int 0)]) (f' := (231, [some (.int x0), some (.int x1), some (.int x2)], [])) rfl (tX12_truth (d + 0) 0 I J rv sp rr w nw g84 hg84) (fun v h hq => ?_)
                                              obtain ⟨rfl, rfl⟩ := hq
                                              cases e
                                              exact mm_T.ret rfl ⟨rfl, rfl⟩
                                            · rw [if_neg h307] at e
                                              refine mm_T.seg (f' := (228, [some (.int x0), some (.int x1), some (.int x2)], [(.int 1)])) (h' := (107, I, J, mm_rf rv sp rr w nw)) 2 rfl ?_
                                              obtain ⟨g85, hg85⟩ : ∃ z, fX12_truth 1 = z := ⟨_, rfl⟩
                                              try rw [hg85] at e
                                              refine mm_T.call (t := 236) (as := [(.int 1)]) (f' := (231, [some (.int x0), some (.int x1), some (.int x2)], [])) rfl (tX12_truth (d + 0) 1 I J rv sp rr w nw g85 hg85) (fun v h hq => ?_)
                                              obtain ⟨rfl, rfl⟩ := hq
                                              cases e
                                              exact mm_T.ret rfl ⟨rfl, rfl⟩
                                          · rw [if_neg h306] at e
                                            refine mm_T.seg (f' := (228, [some (.int x0), some (.int x1), some (.int x2)], [(.int 1)])) (h' := (107, I, J, mm_rf rv sp rr w nw)) 2 rfl ?_
                                            obtain ⟨g86, hg86⟩ : ∃ z, fX12_truth 1 = z := ⟨_, rfl⟩
                                            try rw [hg86] at e
                                            refine mm_T.call (t := 236) (as := [(.int 1)]) (f' := (231, [some (.int x0), some (.int x1), some (.int x2)], [])) rfl (tX12_truth (d + 0) 1 I J rv sp rr w nw g86 hg86) (fun v h hq => ?_)
                                            obtain ⟨rfl, rfl⟩ := hq
                                            cases e
                                            exact mm_T.ret rfl ⟨rfl, rfl⟩
                                        · rw [if_neg h305] at e
                                          by_cases h308 : x0 = 57
                                          · rw [if_pos h308] at e
                                            refine mm_T.step (f' := (215, [some (.int x0), some (.int x1), some (.int x2)], [])) (h' := (107, I, J, mm_rf rv sp rr w nw)) (by first | (rw [h308]; rfl) | exact absurd h308 (by decide)) ?_
                                            refine mm_T.seg (f' := (216, [some (.int x0), some (.int x1), some (.int x2)], [(.int x1)])) (h' := (107, I, J, mm_rf rv sp rr w nw)) 1 rfl ?_
                                            refine mm_T.br (c := x1 = 0) (a := ((219, [some (.int x0), some (.int x1), some (.int x2)], []), (107, I, J, mm_rf rv sp rr w nw))) (b := ((223, [some (.int x0), some (.int x1), some (.int x2)], []), (107, I, J, mm_rf rv sp rr w nw))) rfl (fun h309 => ?_) (fun h309 => ?_)
                                            · rw [if_pos h309] at e
                                              refine mm_T.seg (f' := (220, [some (.int x0), some (.int x1), some (.int x2)], [(.int x2)])) (h' := (107, I, J, mm_rf rv sp rr w nw)) 1 rfl ?_
                                              refine mm_T.br (c := x2 = 0) (a := ((227, [some (.int x0), some (.int x1), some (.int x2)], []), (107, I, J, mm_rf rv sp rr w nw))) (b := ((223, [some (.int x0), some (.int x1), some (.int x2)], []), (107, I, J, mm_rf rv sp rr w nw))) rfl (fun h310 => ?_) (fun h310 => ?_)
                                              · rw [if_pos h310] at e
                                                refine mm_T.seg (f' := (228, [some (.int x0), some (.int x1), some (.int x2)], [(.int 0)])) (h' := (107, I, J, mm_rf rv sp rr w nw)) 1 rfl ?_
                                                obtain ⟨g87, hg87⟩ : ∃ z, fX12_truth 0 = z := ⟨_, rfl⟩
                                                try rw [hg87] at e
                                                refine mm_T.call (t := 236) (as := [(.int 0)]) (f' := (231, [some (.int x0), some (.int x1), some (.int x2)], [])) rfl (tX12_truth (d + 0) 0 I J rv sp rr w nw g87 hg87) (fun v h hq => ?_)
                                                obtain ⟨rfl, rfl⟩ := hq
                                                cases e
                                                exact mm_T.ret rfl ⟨rfl, rfl⟩
                                              · rw [if_neg h310] at e
                                                refine mm_T.seg (f' := (228, [some (.int x0), some (.int x1), some (.int x2)], [(.int 1)])) (h' := (107, I, J, mm_rf rv sp rr w nw)) 2 rfl ?_
                                                obtain ⟨g88, hg88⟩ : ∃ z, fX12_truth 1 = z := ⟨_, rfl⟩
                                                try rw [hg88] at e
                                                refine mm_T.call (t := 236) (as := [(.int 1)]) (f' := (231, [some (.int x0), some (.int x1), some (.int x2)], [])) rfl (tX12_truth (d + 0) 1 I J rv sp rr w nw g88 hg88) (fun v h hq => ?_)
                                                obtain ⟨rfl, rfl⟩ := hq
                                                cases e
                                                exact mm_T.ret rfl ⟨rfl, rfl⟩
                                            · rw [if_neg h309] at e
                                              refine mm_T.seg (f' := (228, [some (.int x0), some (.int x1), some (.int x2)], [(.int 1)])) (h' := (107, I, J, mm_rf rv sp rr w nw)) 2 rfl ?_
                                              obtain ⟨g89, hg89⟩ : ∃ z, fX12_truth 1 = z := ⟨_, rfl⟩
                                              try rw [hg89] at e
                                              refine mm_T.call (t := 236) (as := [(.int 1)]) (f' := (231, [some (.int x0), some (.int x1), some (.int x2)], [])) rfl (tX12_truth (d + 0) 1 I J rv sp rr w nw g89 hg89) (fun v h hq => ?_)
                                              obtain ⟨rfl, rfl⟩ := hq
                                              cases e
                                              exact mm_T.ret rfl ⟨rfl, rfl⟩
                                          · rw [if_neg h308] at e
                                            by_cases h311 : x0 = 58
                                            · rw [if_pos h311] at e
                                              refine mm_T.step (f' := (215, [some (.int x0), some (.int x1), some (.int x2)], [])) (h' := (107, I, J, mm_rf rv sp rr w nw)) (by first | (rw [h311]; rfl) | exact absurd h311 (by decide)) ?_
                                              refine mm_T.seg (f' := (216, [some (.int x0), some (.int x1), some (.int x2)], [(.int x1)])) (h' := (107, I, J, mm_rf rv sp rr w nw)) 1 rfl ?_
                                              refine mm_T.br (c := x1 = 0) (a := ((219, [some (.int x0), some (.int x1), some (.int x2)], []), (107, I, J, mm_rf rv sp rr w nw))) (b := ((223, [some (.int x0), some (.int x1), some (.int x2)], []), (107, I, J, mm_rf rv sp rr w nw))) rfl (fun h312 => ?_) (fun h312 => ?_)
                                              · rw [if_pos h312] at e
                                                refine mm_T.seg (f' := (220, [some (.int x0), some (.int x1), some (.int x2)], [(.int x2)])) (h' := (107, I, J, mm_rf rv sp rr w nw)) 1 rfl ?_
                                                refine mm_T.br (c := x2 = 0) (a := ((227, [some (.int x0), some (.int x1), some (.int x2)], []), (107, I, J, mm_rf rv sp rr w nw))) (b := ((223, [some (.int x0), some (.int x1), some (.int x2)], []), (107, I, J, mm_rf rv sp rr w nw))) rfl (fun h313 => ?_) (fun h313 => ?_)
                                                · rw [if_pos h313] at e
                                                  refine mm_T.seg (f' := (228, [some (.int x0), some (.int x1), some (.int x2)], [(.int 0)])) (h' := (107, I, J, mm_rf rv sp rr w nw)) 1 rfl ?_
                                                  obtain ⟨g90, hg90⟩ : ∃ z, fX12_truth 0 = z := ⟨_, rfl⟩
                                                  try rw [hg90] at e
                                                  refine mm_T.call (t := 236) (as := [(.int 0)]) (f' := (231, [some (.int x0), some (.int x1), some (.int x2)], [])) rfl (tX12_truth (d + 0) 0 I J rv sp rr w nw g90 hg90) (fun v h hq => ?_)
                                                  obtain ⟨rfl, rfl⟩ := hq
                                                  cases e
                                                  exact mm_T.ret rfl ⟨rfl, rfl⟩
                                                · rw [if_neg h313] at e
                                                  refine mm_T.seg (f' := (228, [some (.int x0), some (.int x1), some (.int x2)], [(.int 1)])) (h' := (107, I, J, mm_rf rv sp rr w nw)) 2 rfl ?_
                                                  obtain ⟨g91, hg91⟩ : ∃ z, fX12_truth 1 = z := ⟨_, rfl⟩
                                                  try rw [hg91] at e
                                                  refine mm_T.call (t := 236) (as := [(.int 1)]) (f' := (231, [some (.int x0), some (.int x1), some (.int x2)], [])) rfl (tX12_truth (d + 0) 1 I J rv sp rr w nw g91 hg91) (fun v h hq => ?_)
                                                  obtain ⟨rfl, rfl⟩ := hq
                                                  cases e
                                                  exact mm_T.ret rfl ⟨rfl, rfl⟩
                                              · rw [if_neg h312] at e
                                                refine mm_T.seg (f' := (228, [some (.int x0), some (.int x1), some (.int x2)], [(.int 1)])) (h' := (107, I, J, mm_rf rv sp rr w nw)) 2 rfl ?_
                                                obtain ⟨g92, hg92⟩ : ∃ z, fX12_truth 1 = z := ⟨_, rfl⟩
                                                try rw [hg92] at e
                                                refine mm_T.call (t := 236) (as := [(.int 1)]) (f' := (231, [some (.int x0), some (.int x1), some (.int x2)], [])) rfl (tX12_truth (d + 0) 1 I J rv sp rr w nw g92 hg92) (fun v h hq => ?_)
                                                obtain ⟨rfl, rfl⟩ := hq
                                                cases e
                                                exact mm_T.ret rfl ⟨rfl, rfl⟩
                                            · rw [if_neg h311] at e
                                              by_cases h314 : x0 = 59
                                              · rw [if_pos h314] at e
                                                refine mm_T.step (f' := (215, [some (.int x0), some (.int x1), some (.int x2)], [])) (h' := (107, I, J, mm_rf rv sp rr w nw)) (by first | (rw [h314]; rfl) | exact absurd h314 (by decide)) ?_
                                                refine mm_T.seg (f' := (216, [some (.int x0), some (.int x1), some (.int x2)], [(.int x1)])) (h' := (107, I, J, mm_rf rv sp rr w nw)) 1 rfl ?_
                                                refine mm_T.br (c := x1 = 0) (a := ((219, [some (.int x0), some (.int x1), some (.int x2)], []), (107, I, J, mm_rf rv sp rr w nw))) (b := ((223, [some (.int x0), some (.int x1), some (.int x2)], []), (107, I, J, mm_rf rv sp rr w nw))) rfl (fun h315 => ?_) (fun h315 => ?_)
                                                · rw [if_pos h315] at e
                                                  refine mm_T.seg (f' := (220, [some (.int x0), some (.int x1), some (.int x2)], [(.int x2)])) (h' := (107, I, J, mm_rf rv sp rr w nw)) 1 rfl ?_
                                                  refine mm_T.br (c := x2 = 0) (a := ((227, [some (.int x0), some (.int x1), some (.int x2)], []), (107, I, J, mm_rf rv sp rr w nw))) (b := ((223, [some (.int x0), some (.int x1), some (.int x2)], []), (107, I, J, mm_rf rv sp rr w nw))) rfl (fun h316 => ?_) (fun h316 => ?_)
                                                  · rw [if_pos h316] at e
                                                    refine mm_T.seg (f' := (228, [some (.int x0), some (.int x1), some (.int x2)], [(.int 0)])) (h' := (107, I, J, mm_rf rv sp rr w nw)) 1 rfl ?_
                                                    obtain ⟨g93, hg93⟩ : ∃ z, fX12_truth 0 = z := ⟨_, rfl⟩
                                                    try rw [hg93] at e
                                                    refine mm_T.call (t := 236) (as := [(.int 0)]) (f' := (231, [some (.int x0), some (.int x1), some (.int x2)], [])) rfl (tX12_truth (d + 0) 0 I J rv sp rr w nw g93 hg93) (fun v h hq => ?_)
                                                    obtain ⟨rfl, rfl⟩ := hq
                                                    cases e
                                                    exact mm_T.ret rfl ⟨rfl, rfl⟩
                                                  · rw [if_neg h316] at e
                                                    refine mm_T.seg (f' := (228, [some (.int x0), some (.int x1), some (.int x2)], [(.int 1)])) (h' := (107, I, J, mm_rf rv sp rr w nw)) 2 rfl ?_
                                                    obtain ⟨g94, hg94⟩ : ∃ z, fX12_truth 1 = z := ⟨_, rfl⟩
                                                    try rw [hg94] at e
                                                    refine mm_T.call (t := 236) (as := [(.int 1)]) (f' := (231, [some (.int x0), some (.int x1), some (.int x2)], [])) rfl (tX12_truth (d + 0) 1 I J rv sp rr w nw g94 hg94) (fun v h hq => ?_)
                                                    obtain ⟨rfl, rfl⟩ := hq
                                                    cases e
                                                    exact mm_T.ret rfl ⟨rfl, rfl⟩
                                                · rw [if_neg h315] at e
                                                  refine mm_T.seg (f' := (228, [some (.int x0), some (.int x1), some (.int x2)], [(.int 1)])) (h' := (107, I, J, mm_rf rv sp rr w nw)) 2 rfl ?_
                                                  obtain ⟨g95, hg95⟩ : ∃ z, fX12_truth 1 = z := ⟨_, rfl⟩
                                                  try rw [hg95] at e
                                                  refine mm_T.call (t := 236) (as := [(.int 1)]) (f' := (231, [some (.int x0), some (.int x1), some (.int x2)], [])) rfl (tX12_truth (d + 0) 1 I J rv sp rr w nw g95 hg95) (fun v h hq => ?_)
                                                  obtain ⟨rfl, rfl⟩ := hq
                                                  cases e
                                                  exact mm_T.ret rfl ⟨rfl, rfl⟩
                                              · rw [if_neg h314] at e
                                                by_cases h317 : x0 = 60
                                                · rw [if_pos h317] at e
                                                  refine mm_T.step (f' := (156, [some (.int x0), some (.int x1), some (.int x2)], [])) (h' := (107, I, J, mm_rf rv sp rr w nw)) (by first | (rw [h317]; rfl) | exact absurd h317 (by decide)) ?_
                                                  refine mm_T.seg (f' := (158, [some (.int x0), some (.int x1), some (.int x2)], [(.int x2), (.int x1)])) (h' := (107, I, J, mm_rf rv sp rr w nw)) 2 rfl ?_
                                                  refine mm_T.br (c := x1 < x2) (a := ((161, [some (.int x0), some (.int x1), some (.int x2)], []), (107, I, J, mm_rf rv sp rr w nw))) (b := ((165, [some (.int x0), some (.int x1), some (.int x2)], []), (107, I, J, mm_rf rv sp rr w nw))) rfl (fun h318 => ?_) (fun h318 => ?_)
                                                  · rw [if_pos h318] at e
                                                    refine mm_T.seg (f' := (166, [some (.int x0), some (.int x1), some (.int x2)], [(.int 1)])) (h' := (107, I, J, mm_rf rv sp rr w nw)) 2 rfl ?_
                                                    obtain ⟨g96, hg96⟩ : ∃ z, fX12_truth 1 = z := ⟨_, rfl⟩
                                                    try rw [hg96] at e
                                                    refine mm_T.call (t := 236) (as := [(.int 1)]) (f' := (169, [some (.int x0), some (.int x1), some (.int x2)], [])) rfl (tX12_truth (d + 0) 1 I J rv sp rr w nw g96 hg96) (fun v h hq => ?_)
                                                    obtain ⟨rfl, rfl⟩ := hq
                                                    cases e
                                                    exact mm_T.ret rfl ⟨rfl, rfl⟩
                                                  · rw [if_neg h318] at e
                                                    refine mm_T.seg (f' := (166, [some (.int x0), some (.int x1), some (.int x2)], [(.int 0)])) (h' := (107, I, J, mm_rf rv sp rr w nw)) 1 rfl ?_
                                                    obtain ⟨g97, hg97⟩ : ∃ z, fX12_truth 0 = z := ⟨_, rfl⟩
                                                    try rw [hg97] at e
                                                    refine mm_T.call (t := 236) (as := [(.int 0)]) (f' := (169, [some (.int x0), some (.int x1), some (.int x2)], [])) rfl (tX12_truth (d + 0) 0 I J rv sp rr w nw g97 hg97) (fun v h hq => ?_)
                                                    obtain ⟨rfl, rfl⟩ := hq
                                                    cases e
                                                    exact mm_T.ret rfl ⟨rfl, rfl⟩
                                                · rw [if_neg h317] at e
                                                  by_cases h319 : x0 = 61
                                                  · rw [if_pos h319] at e
                                                    refine mm_T.step (f' := (184, [some (.int x0), some (.int x1), some (.int x2)], [])) (h' := (107, I, J, mm_rf rv sp rr w nw)) (by first | (rw [h319]; rfl) | exact absurd h319 (by decide)) ?_
                                                    refine mm_T.seg (f' := (186, [some (.int x0), some (.int x1), some (.int x2)], [(.int x2), (.int x1)])) (h' := (107, I, J, mm_rf rv sp rr w nw)) 2 rfl ?_
                                                    refine mm_T.br (c := x1 = x2) (a := ((189, [some (.int x0), some (.int x1), some (.int x2)], []), (107, I, J, mm_rf rv sp rr w nw))) (b := ((193, [some (.int x0), some (.int x1), some (.int x2)], []), (107, I, J, mm_rf rv sp rr w nw))) rfl (fun h320 => ?_) (fun h320 => ?_)
                                                    · rw [if_pos h320] at e
                                                      refine mm_T.seg (f' := (194, [some (.int x0), some (.int x1), some (.int x2)], [(.int 1)])) (h' := (107, I, J, mm_rf rv sp rr w nw)) 2 rfl ?_
                                                      obtain ⟨g98, hg98⟩ : ∃ z, fX12_truth 1 = z := ⟨_, rfl⟩
                                                      try rw [hg98] at e
                                                      refine mm_T.call (t := 236) (as := [(.int 1)]) (f' := (197, [some (.int x0), some (.int x1), some (.int x2)], [])) rfl (tX12_truth (d + 0) 1 I J rv sp rr w nw g98 hg98) (fun v h hq => ?_)
                                                      obtain ⟨rfl, rfl⟩ := hq
                                                      cases e
                                                      exact mm_T.ret rfl ⟨rfl, rfl⟩
                                                    · rw [if_neg h320] at e
                                                      refine mm_T.seg (f' := (194, [some (.int x0), some (.int x1), some (.int x2)], [(.int 0)])) (h' := (107, I, J, mm_rf rv sp rr w nw)) 1 rfl ?_
                                                      obtain ⟨g99, hg99⟩ : ∃ z, fX12_truth 0 = z := ⟨_, rfl⟩
                                                      try rw [hg99] at e
                                                      refine mm_T.call (t := 236) (as := [(.int 0)]) (f' := (197, [some (.int x0), some (.int x1), some (.int x2)], [])) rfl (tX12_truth (d + 0) 0 I J rv sp rr w nw g99 hg99) (fun v h hq => ?_)
                                                      obtain ⟨rfl, rfl⟩ := hq
                                                      cases e
                                                      exact mm_T.ret rfl ⟨rfl, rfl⟩
                                                  · rw [if_neg h319] at e
                                                    by_cases h321 : x0 = 62
                                                    · rw [if_pos h321] at e
                                                      refine mm_T.step (f' := (170, [some (.int x0), some (.int x1), some (.int x2)], [])) (h' := (107, I, J, mm_rf rv sp rr w nw)) (by first | (rw [h321]; rfl) | exact absurd h321 (by decide)) ?_
                                                      refine mm_T.seg (f' := (172, [some (.int x0), some (.int x1), some (.int x2)], [(.int x2), (.int x1)])) (h' := (107, I, J, mm_rf rv sp rr w nw)) 2 rfl ?_
                                                      refine mm_T.br (c := x2 < x1) (a := ((175, [some (.int x0), some (.int x1), some (.int x2)], []), (107, I, J, mm_rf rv sp rr w nw))) (b := ((179, [some (.int x0), some (.int x1), some (.int x2)], []), (107, I, J, mm_rf rv sp rr w nw))) rfl (fun h322 => ?_) (fun h322 => ?_)
                                                      · rw [if_pos h322] at e
                                                        refine mm_T.seg (f' := (180, [some (.int x0), some (.int x1), some (.int x2)], [(.int 1)])) (h' := (107, I, J, mm_rf rv sp rr w nw)) 2 rfl ?_
                                                        obtain ⟨g100, hg100⟩ : ∃ z, fX12_truth 1 = z := ⟨_, rfl⟩
                                                        try rw [hg100] at e
                                                        refine mm_T.call (t := 236) (as := [(.int 1)]) (f' := (183, [some (.int x0), some (.int x1), some (.int x2)], [])) rfl (tX12_truth (d + 0) 1 I J rv sp rr w nw g100 hg100) (fun v h hq => ?_)
                                                        obtain ⟨rfl, rfl⟩ := hq
                                                        cases e
                                                        exact mm_T.ret rfl ⟨rfl, rfl⟩
                                                      · rw [if_neg h322] at e
                                                        refine mm_T.seg (f' := (180, [some (.int x0), some (.int x1), some (.int x2)], [(.int 0)])) (h' := (107, I, J, mm_rf rv sp rr w nw)) 1 rfl ?_
                                                        obtain ⟨g101, hg101⟩ : ∃ z, fX12_truth 0 = z := ⟨_, rfl⟩
                                                        try rw [hg101] at e
                                                        refine mm_T.call (t := 236) (as := [(.int 0)]) (f' := (183, [some (.int x0), some (.int x1), some (.int x2)], [])) rfl (tX12_truth (d + 0) 0 I J rv sp rr w nw g101 hg101) (fun v h hq => ?_)
                                                        obtain ⟨rfl, rfl⟩ := hq
                                                        cases e
                                                        exact mm_T.ret rfl ⟨rfl, rfl⟩
                                                    · rw [if_neg h321] at e
                                                      refine mm_T.tabs (lo := 37) (hi := 62) (y := ((215, [some (.int x0), some (.int x1), some (.int x2)], []), (107, I, J, mm_rf rv sp rr w nw))) rfl (mm_swo (37) (62) x0 [37, 38, 39, 40, 41, 42, 43, 44, 45, 46, 47, 48, 49, 50, 51, 52, 53, 54, 55, 56, 57, 58, 59, 60, 61, 62] (by decide) (by intro z hz; simp only [List.mem_cons, List.not_mem_nil, or_false] at hz; rcases hz with rfl | rfl | rfl | rfl | rfl | rfl | rfl | rfl | rfl | rfl | rfl | rfl | rfl | rfl | rfl | rfl | rfl | rfl | rfl | rfl | rfl | rfl | rfl | rfl | rfl | rfl <;> first | assumption | decide)) ?_
                                                      refine mm_T.seg (f' := (216, [some (.int x0), some (.int x1), some (.int x2)], [(.int x1)])) (h' := (107, I, J, mm_rf rv sp rr w nw)) 1 rfl ?_
                                                      refine mm_T.br (c := x1 = 0) (a := ((219, [some (.int x0), some (.int x1), some (.int x2)], []), (107, I, J, mm_rf rv sp rr w nw))) (b := ((223, [some (.int x0), some (.int x1), some (.int x2)], []), (107, I, J, mm_rf rv sp rr w nw))) rfl (fun h323 => ?_) (fun h323 => ?_)
                                                      · rw [if_pos h323] at e
                                                        refine mm_T.seg (f' := (220, [some (.int x0), some (.int x1), some (.int x2)], [(.int x2)])) (h' := (107, I, J, mm_rf rv sp rr w nw)) 1 rfl ?_
                                                        refine mm_T.br (c := x2 = 0) (a := ((227, [some (.int x0), some (.int x1), some (.int x2)], []), (107, I, J, mm_rf rv sp rr w nw))) (b := ((223, [some (.int x0), some (.int x1), some (.int x2)], []), (107, I, J, mm_rf rv sp rr w nw))) rfl (fun h324 => ?_) (fun h324 => ?_)
                                                        · rw [if_pos h324] at e
                                                          refine mm_T.seg (f' := (228, [some (.int x0), some (.int x1), some (.int x2)], [(.int 0)])) (h' := (107, I, J, mm_rf rv sp rr w nw)) 1 rfl ?_
                                                          obtain ⟨g102, hg102⟩ : ∃ z, fX12_truth 0 = z := ⟨_, rfl⟩
                                                          try rw [hg102] at e
                                                          refine mm_T.call (t := 236) (as := [(.int 0)]) (f' := (231, [some (.int x0), some (.int x1), some (.int x2)], [])) rfl (tX12_truth (d + 0) 0 I J rv sp rr w nw g102 hg102) (fun v h hq => ?_)
                                                          obtain ⟨rfl, rfl⟩ := hq
                                                          cases e
                                                          exact mm_T.ret rfl ⟨rfl, rfl⟩
                                                        · rw [if_neg h324] at e
                                                          refine mm_T.seg (f' := (228, [some (.int x0), some (.int x1), some (.int x2)], [(.int 1)])) (h' := (107, I, J, mm_rf rv sp rr w nw)) 2 rfl ?_
                                                          obtain ⟨g103, hg103⟩ : ∃ z, fX12_truth 1 = z := ⟨_, rfl⟩
                                                          try rw [hg103] at e
                                                          refine mm_T.call (t := 236) (as := [(.int 1)]) (f' := (231, [some (.int x0), some (.int x1), some (.int x2)], [])) rfl (tX12_truth (d + 0) 1 I J rv sp rr w nw g103 hg103) (fun v h hq => ?_)
                                                          obtain ⟨rfl, rfl⟩ := hq
                                                          cases e
                                                          exact mm_T.ret rfl ⟨rfl, rfl⟩
                                                      · rw [if_neg h323] at e
                                                        refine mm_T.seg (f' := (228, [some (.int x0), some (.int x1), some (.int x2)], [(.int 1)])) (h' := (107, I, J, mm_rf rv sp rr w nw)) 2 rfl ?_
                                                        obtain ⟨g104, hg104⟩ : ∃ z, fX12_truth 1 = z := ⟨_, rfl⟩
                                                        try rw [hg104] at e
                                                        refine mm_T.call (t := 236) (as := [(.int 1)]) (f' := (231, [some (.int x0), some (.int x1), some (.int x2)], [])) rfl (tX12_truth (d + 0) 1 I J rv sp rr w nw g104 hg104) (fun v h hq => ?_)
                                                        obtain ⟨rfl, rfl⟩ := hq
                                                        cases e
                                                        exact mm_T.ret rfl ⟨rfl, rfl⟩
