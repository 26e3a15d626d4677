set_option maxRecDepth 100000 in
set_option maxHeartbeats 4000000 in
theorem tX12_isBox (d : Nat) (x0 : Int32) (I : Nat → Nat → Int32) (J : Nat → Nat → Int64) (rv sp rr w nw : Nat) (out : Int32) (e : fX12_isBox x0 = out) : mm_T none (d + 0) 328 (mm_ent 328 [(.int x0)]) (107, I, J, mm_rf rv sp rr w nw) (fun v h => v = some (.int out) ∧ h = (107, I, J, mm_rf rv sp rr w nw)) := by
  unfold fX12_isBox at e
  refine mm_T.seg (f' := (1, [some (.int x0)], [(.int x0)])) (h' := (107, I, J, mm_rf rv sp rr w nw)) 1 rfl ?_
  refine mm_T.br (c := x0 < 0) (a := ((13, [some (.int x0)], []), (107, I, J, mm_rf rv sp rr w nw))) (b := ((4, [some (.int x0)], []), (107, I, J, mm_rf rv sp rr w nw))) rfl (fun h1262 => ?_) (fun h1262 => ?_)
  · rw [if_pos h1262] at e
    refine mm_T.seg (f' := (14, [some (.int x0)], [(.int 0)])) (h' := (107, I, J, mm_rf rv sp rr w nw)) 1 rfl ?_
    cases e
    exact mm_T.ret rfl ⟨rfl, rfl⟩
  · rw [if_neg h1262] at e
    refine mm_T.seg (f' := (6, [some (.int x0)], [(.int 3), (.int x0)])) (h' := (107, I, J, mm_rf rv sp rr w nw)) 2 rfl ?_
    refine mm_T.br (c := x0 < 3) (a := ((9, [some (.int x0)], []), (107, I, J, mm_rf rv sp rr w nw))) (b := ((13, [some (.int x0)], []), (107, I, J, mm_rf rv sp rr w nw))) rfl (fun h1263 => ?_) (fun h1263 => ?_)
    · rw [if_pos h1263] at e
      refine mm_T.seg (f' := (14, [some (.int x0)], [(.int 1)])) (h' := (107, I, J, mm_rf rv sp rr w nw)) 2 rfl ?_
      cases e
      exact mm_T.ret rfl ⟨rfl, rfl⟩
    · rw [if_neg h1263] at e
      refine mm_T.seg (f' := (14, [some (.int x0)], [(.int 0)])) (h' := (107, I, J, mm_rf rv sp rr w nw)) 1 rfl ?_
      cases e
      exact mm_T.ret rfl ⟨rfl, rfl⟩
set_option maxRecDepth 100000 in
set_option maxHeartbeats 4000000 in
theorem tlX12_image_L18 (d : Nat) (Q : Option Value → mm_H → Prop) : ∀ (n : Nat) (y1 : Int32) (y2 : Int32) (I : Nat → Nat → Int32) (J : Nat → Nat → Int64) (rv sp rr w nw : Nat), ∀ (out : (Nat → Nat → Int32)), fX12_image_L18 n y1 y2 I = some out → mm_T none (d + 3) 329 (47, [some (.ref 62), none, none], []) (107, out, J, mm_rf rv sp rr w nw) Q → mm_T none (d + 3) 329 (18, [some (.ref 62), some (.int y1), some (.int y2)], []) (107, I, J, mm_rf rv sp rr w nw) Q := by
  intro n
  induction n with
  | zero =>
    intro y1 y2 I J rv sp rr w nw out e k
    rw [fX12_image_L18] at e; cases e
  | succ n ih =>
    intro y1 y2 I J rv sp rr w nw out e k
    rw [fX12_image_L18] at e
    refine mm_T.seg (f' := (21, [some (.ref 62), some (.int y1), some (.int y2)], [(.int 28), (.int y2)])) (h' := (107, I, J, mm_rf rv sp rr w nw)) 2 rfl ?_
    refine mm_T.br (c := y2 < 28) (a := ((24, [some (.ref 62), some (.int y1), some (.int y2)], []), (107, I, J, mm_rf rv sp rr w nw))) (b := ((47, [some (.ref 62), some (.int y1), some (.int y2)], []), (107, I, J, mm_rf rv sp rr w nw))) rfl (fun h1266 => ?_) (fun h1266 => ?_)
    · rw [if_pos h1266] at e
      refine mm_T.seg (f' := (39, [some (.ref 62), some (.int y1), some (.int y2)], [(.int y2), (.ref 84), (.int ((28 * y1) + y2)), (.ref 106)])) (h' := (107, I, J, mm_rf rv sp rr w nw)) 10 rfl ?_
      by_cases h1267 : y2 < 0 ∨ 28 ≤ y2.toNatClampNeg
      · rw [if_pos h1267] at e; cases e
      rw [if_neg h1267] at e
      refine mm_T.guard (y := ((40, [some (.ref 62), some (.int y1), some (.int y2)], [(.int (I 84 y2.toNatClampNeg)), (.int ((28 * y1) + y2)), (.ref 106)]), (107, I, J, mm_rf rv sp rr w nw))) rfl h1267 ?_
      by_cases h1268 : ((28 * y1) + y2) < 0 ∨ 84 ≤ ((28 * y1) + y2).toNatClampNeg
      · rw [if_pos h1268] at e; cases e
      rw [if_neg h1268] at e
      refine mm_T.guard (c := ((28 * y1) + y2) < 0 ∨ 84 ≤ ((28 * y1) + y2).toNatClampNeg) (y := ((41, [some (.ref 62), some (.int y1), some (.int y2)], []), (107, (mm_up I 106 ((28 * y1) + y2).toNatClampNeg (I 84 y2.toNatClampNeg)), J, mm_rf rv sp rr w nw))) (mm_gen (P := fun z => mm_stp none 329 (40, [some (.ref 62), some (.int y1), some (.int y2)], [(.int (I 84 y2.toNatClampNeg)), (.int z), (.ref 106)]) (107, I, J, mm_rf rv sp rr w nw) = if z < 0 ∨ 84 ≤ z.toNatClampNeg then none else some (.inl ((41, [some (.ref 62), some (.int y1), some (.int y2)], []), (107, (mm_up I 106 z.toNatClampNeg (I 84 y2.toNatClampNeg)), J, mm_rf rv sp rr w nw)))) ((28 * y1) + y2) (fun z => rfl)) h1268 ?_
      refine mm_T.seg (f' := (18, [some (.ref 62), some (.int y1), some (.int (y2 + 1))], [])) (h' := (107, (mm_up I 106 ((28 * y1) + y2).toNatClampNeg (I 84 y2.toNatClampNeg)), J, mm_rf rv sp rr w nw)) 2 rfl ?_
      refine mm_T.mask [true, true, true] ?_
      exact ih y1 (y2 + 1) (mm_up I 106 ((28 * y1) + y2).toNatClampNeg (I 84 y2.toNatClampNeg)) J rv sp rr w nw out e k
    · rw [if_neg h1266] at e
      cases e
      refine mm_T.mask [true, false, false] ?_
      exact k
set_option maxRecDepth 100000 in
set_option maxHeartbeats 4000000 in
theorem tX12_image (d n : Nat) (x1 : Int32) (I : Nat → Nat → Int32) (J : Nat → Nat → Int64) (rv sp rr w nw : Nat) (out : Int32 × (Nat → Nat → Int32)) (e : fX12_image n x1 I = some out) : mm_T none (d + 3) 329 (mm_ent 329 [(.ref 62), (.int x1)]) (107, I, J, mm_rf rv sp rr w nw) (fun v h => v = some (.int out.1) ∧ h = (107, out.2, J, mm_rf rv sp rr w nw)) := by
  unfold fX12_image at e
  refine mm_T.seg (f' := (1, [some (.ref 62), some (.int x1), none], [(.int x1)])) (h' := (107, I, J, mm_rf rv sp rr w nw)) 1 rfl ?_
  refine mm_T.call (t := 328) (as := [(.int x1)]) (f' := (4, [some (.ref 62), some (.int x1), none], [])) rfl (tX12_isBox (d + 2) x1 I J rv sp rr w nw _ rfl) (fun v h hq => ?_)
  obtain ⟨rfl, rfl⟩ := hq
  refine mm_T.br (c := (fX12_isBox x1) = 0) (a := ((7, [some (.ref 62), some (.int x1), none], []), (107, I, J, mm_rf rv sp rr w nw))) (b := ((9, [some (.ref 62), some (.int x1), none], []), (107, I, J, mm_rf rv sp rr w nw))) rfl (fun h1264 => ?_) (fun h1264 => ?_)
  · rw [if_pos h1264] at e
    refine mm_T.seg (f' := (8, [some (.ref 62), some (.int x1), none], [(.int (-1))])) (h' := (107, I, J, mm_rf rv sp rr w nw)) 1 rfl ?_
    cases e
    exact mm_T.ret rfl ⟨rfl, rfl⟩
  · rw [if_neg h1264] at e
    refine mm_T.seg (f' := (15, [some (.ref 62), some (.int x1), none], [(.int 1), (.int x1), (.ref 105)])) (h' := (107, I, J, mm_rf rv sp rr w nw)) 4 rfl ?_
    by_cases h1265 : x1 < 0 ∨ 3 ≤ x1.toNatClampNeg
    · rw [if_pos h1265] at e; cases e
    rw [if_neg h1265] at e
    refine mm_T.guard (y := ((16, [some (.ref 62), some (.int x1), none], []), (107, (mm_up I 105 x1.toNatClampNeg (vp_nar .boolean 1)), J, mm_rf rv sp rr w nw))) rfl h1265 ?_
    refine mm_T.seg (f' := (18, [some (.ref 62), some (.int x1), some (.int 0)], [])) (h' := (107, (mm_up I 105 x1.toNatClampNeg (vp_nar .boolean 1)), J, mm_rf rv sp rr w nw)) 2 rfl ?_
    refine mm_T.mask [true, true, true] ?_
    obtain ⟨o1269, eo1269, e⟩ := mm_bind e
    refine tlX12_image_L18 d _ n x1 0 (mm_up I 105 x1.toNatClampNeg (vp_nar .boolean 1)) J rv sp rr w nw o1269 eo1269 ?_
    refine mm_T.seg (f' := (48, [some (.ref 62), none, none], [(.ref 62)])) (h' := (107, o1269, J, mm_rf rv sp rr w nw)) 1 rfl ?_
    obtain ⟨o1270, eo1270, e⟩ := mm_bind e
    refine mm_T.call (t := 311) (as := [(.ref 62)]) (f' := (51, [some (.ref 62), none, none], [])) rfl (tX12_over (d + 0) n o1269 J rv sp rr w nw o1270 eo1270) (fun v h hq => ?_)
    obtain ⟨rfl, rfl⟩ := hq
    obtain ⟨o1271, eo1271, e⟩ := mm_bind e
    refine mm_T.call (t := 255) (as := [(.int o1270.1)]) (f' := (54, [some (.ref 62), none, none], [])) rfl (tX12_members (d + 2) n o1270.1 o1270.2 J rv sp rr w nw o1271 eo1271) (fun v h hq => ?_)
    obtain ⟨rfl, rfl⟩ := hq
    cases e
    exact mm_T.ret rfl ⟨rfl, rfl⟩
set_option maxRecDepth 100000 in
set_option maxHeartbeats 4000000 in
theorem tlX12_back_L20 (d : Nat) (Q : Option Value → mm_H → Prop) : ∀ (n : Nat) (y1 : Int32) (y2 : Int32) (I : Nat → Nat → Int32) (J : Nat → Nat → Int64) (rv sp rr w nw : Nat), ∀ (out : (Nat → Nat → Int32)), fX12_back_L20 n y1 y2 I = some out → mm_T none (d + 3) 330 (49, [some (.ref 62), none, none], []) (107, out, J, mm_rf rv sp rr w nw) Q → mm_T none (d + 3) 330 (20, [some (.ref 62), some (.int y1), some (.int y2)], []) (107, I, J, mm_rf rv sp rr w nw) Q := by
  intro n
  induction n with
  | zero =>
    intro y1 y2 I J rv sp rr w nw out e k
    rw [fX12_back_L20] at e; cases e
  | succ n ih =>
    intro y1 y2 I J rv sp rr w nw out e k
    rw [fX12_back_L20] at e
    refine mm_T.seg (f' := (23, [some (.ref 62), some (.int y1), some (.int y2)], [(.int 28), (.int y2)])) (h' := (107, I, J, mm_rf rv sp rr w nw)) 2 rfl ?_
    refine mm_T.br (c := y2 < 28) (a := ((26, [some (.ref 62), some (.int y1), some (.int y2)], []), (107, I, J, mm_rf rv sp rr w nw))) (b := ((49, [some (.ref 62), some (.int y1), some (.int y2)], []), (107, I, J, mm_rf rv sp rr w nw))) rfl (fun h1275 => ?_) (fun h1275 => ?_)
    · rw [if_pos h1275] at e
      refine mm_T.seg (f' := (41, [some (.ref 62), some (.int y1), some (.int y2)], [(.int ((28 * y1) + y2)), (.ref 106), (.int y2), (.ref 84)])) (h' := (107, I, J, mm_rf rv sp rr w nw)) 10 rfl ?_
      by_cases h1276 : ((28 * y1) + y2) < 0 ∨ 84 ≤ ((28 * y1) + y2).toNatClampNeg
      · rw [if_pos h1276] at e; cases e
      rw [if_neg h1276] at e
      refine mm_T.guard (c := ((28 * y1) + y2) < 0 ∨ 84 ≤ ((28 * y1) + y2).toNatClampNeg) (y := ((42, [some (.ref 62), some (.int y1), some (.int y2)], [(.int (I 106 ((28 * y1) + y2).toNatClampNeg)), (.int y2), (.ref 84)]), (107, I, J, mm_rf rv sp rr w nw))) (mm_gen (P := fun z => mm_stp none 330 (41, [some (.ref 62), some (.int y1), some (.int y2)], [(.int z), (.ref 106), (.int y2), (.ref 84)]) (107, I, J, mm_rf rv sp rr w nw) = if z < 0 ∨ 84 ≤ z.toNatClampNeg then none else some (.inl ((42, [some (.ref 62), some (.int y1), some (.int y2)], [(.int (I 106 z.toNatClampNeg)), (.int y2), (.ref 84)]), (107, I, J, mm_rf rv sp rr w nw)))) ((28 * y1) + y2) (fun z => rfl)) h1276 ?_
      by_cases h1277 : y2 < 0 ∨ 28 ≤ y2.toNatClampNeg
      · rw [if_pos h1277] at e; cases e
      rw [if_neg h1277] at e
      refine mm_T.guard (y := ((43, [some (.ref 62), some (.int y1), some (.int y2)], []), (107, (mm_up I 84 y2.toNatClampNeg (I 106 ((28 * y1) + y2).toNatClampNeg)), J, mm_rf rv sp rr w nw))) rfl h1277 ?_
      refine mm_T.seg (f' := (20, [some (.ref 62), some (.int y1), some (.int (y2 + 1))], [])) (h' := (107, (mm_up I 84 y2.toNatClampNeg (I 106 ((28 * y1) + y2).toNatClampNeg)), J, mm_rf rv sp rr w nw)) 2 rfl ?_
      refine mm_T.mask [true, true, true] ?_
      exact ih y1 (y2 + 1) (mm_up I 84 y2.toNatClampNeg (I 106 ((28 * y1) + y2).toNatClampNeg)) J rv sp rr w nw out e k
    · rw [if_neg h1275] at e
      cases e
      refine mm_T.mask [true, false, false] ?_
      exact k
set_option maxRecDepth 100000 in
set_option maxHeartbeats 4000000 in
theorem tX12_back (d n : Nat) (x1 : Int32) (I : Nat → Nat → Int32) (J : Nat → Nat → Int64) (rv sp rr w nw : Nat) (out : Int32 × (Nat → Nat → Int32)) (e : fX12_back n x1 I = some out) : mm_T none (d + 3) 330 (mm_ent 330 [(.ref 62), (.int x1)]) (107, I, J, mm_rf rv sp rr w nw) (fun v h => v = some (.int out.1) ∧ h = (107, out.2, J, mm_rf rv sp rr w nw)) := by
  unfold fX12_back at e
  refine mm_T.seg (f' := (1, [some (.ref 62), some (.int x1), none], [(.int x1)])) (h' := (107, I, J, mm_rf rv sp rr w nw)) 1 rfl ?_
  refine mm_T.call (t := 328) (as := [(.int x1)]) (f' := (4, [some (.ref 62), some (.int x1), none], [])) rfl (tX12_isBox (d + 2) x1 I J rv sp rr w nw _ rfl) (fun v h hq => ?_)
  obtain ⟨rfl, rfl⟩ := hq
  refine mm_T.br (c := (fX12_isBox x1) = 0) (a := ((16, [some (.ref 62), some (.int x1), none], []), (107, I, J, mm_rf rv sp rr w nw))) (b := ((7, [some (.ref 62), some (.int x1), none], []), (107, I, J, mm_rf rv sp rr w nw))) rfl (fun h1272 => ?_) (fun h1272 => ?_)
  · rw [if_pos h1272] at e
    refine mm_T.seg (f' := (17, [some (.ref 62), some (.int x1), none], [(.int (-1))])) (h' := (107, I, J, mm_rf rv sp rr w nw)) 1 rfl ?_
    cases e
    exact mm_T.ret rfl ⟨rfl, rfl⟩
  · rw [if_neg h1272] at e
    refine mm_T.seg (f' := (12, [some (.ref 62), some (.int x1), none], [(.int x1), (.ref 105)])) (h' := (107, I, J, mm_rf rv sp rr w nw)) 3 rfl ?_
    by_cases h1273 : x1 < 0 ∨ 3 ≤ x1.toNatClampNeg
    · rw [if_pos h1273] at e; cases e
    rw [if_neg h1273] at e
    refine mm_T.guard (y := ((13, [some (.ref 62), some (.int x1), none], [(.int (I 105 x1.toNatClampNeg))]), (107, I, J, mm_rf rv sp rr w nw))) rfl h1273 ?_
    refine mm_T.br (c := (I 105 x1.toNatClampNeg) = 0) (a := ((16, [some (.ref 62), some (.int x1), none], []), (107, I, J, mm_rf rv sp rr w nw))) (b := ((18, [some (.ref 62), some (.int x1), none], []), (107, I, J, mm_rf rv sp rr w nw))) rfl (fun h1274 => ?_) (fun h1274 => ?_)
    · rw [if_pos h1274] at e
      refine mm_T.seg (f' := (17, [some (.ref 62), some (.int x1), none], [(.int (-1))])) (h' := (107, I, J, mm_rf rv sp rr w nw)) 1 rfl ?_
      cases e
      exact mm_T.ret rfl ⟨rfl, rfl⟩
    · rw [if_neg h1274] at e
      refine mm_T.seg (f' := (20, [some (.ref 62), some (.int x1), some (.int 0)], [])) (h' := (107, I, J, mm_rf rv sp rr w nw)) 2 rfl ?_
      refine mm_T.mask [true, true, true] ?_
      obtain ⟨o1278, eo1278, e⟩ := mm_bind e
      refine tlX12_back_L20 d _ n x1 0 I J rv sp rr w nw o1278 eo1278 ?_
      refine mm_T.seg (f' := (60, [some (.ref 62), none, none], [(.ref 62)])) (h' := (107, (mm_up (mm_up o1278 62 57 0) 62 58 0), J, mm_rf rv sp rr w nw)) 7 rfl ?_
      obtain ⟨o1279, eo1279, e⟩ := mm_bind e
      refine mm_T.call (t := 311) (as := [(.ref 62)]) (f' := (63, [some (.ref 62), none, none], [])) rfl (tX12_over (d + 0) n (mm_up (mm_up o1278 62 57 0) 62 58 0) J rv sp rr w nw o1279 eo1279) (fun v h hq => ?_)
      obtain ⟨rfl, rfl⟩ := hq
      obtain ⟨o1280, eo1280, e⟩ := mm_bind e
      refine mm_T.call (t := 255) (as := [(.int o1279.1)]) (f' := (66, [some (.ref 62), none, none], [])) rfl (tX12_members (d + 2) n o1279.1 o1279.2 J rv sp rr w nw o1280 eo1280) (fun v h hq => ?_)
      obtain ⟨rfl, rfl⟩ := hq
      cases e
      exact mm_T.ret rfl ⟨rfl, rfl⟩
set_option maxRecDepth 100000 in
set_option maxHeartbeats 4000000 in
theorem tX12_about (d : Nat) (x1 : Int32) (I : Nat → Nat → Int32) (J : Nat → Nat → Int64) (rv sp rr w nw : Nat) (out : Int32) (e : fX12_about x1 I = out) : mm_T none (d + 0) 331 (mm_ent 331 [(.ref 62), (.int x1)]) (107, I, J, mm_rf rv sp rr w nw) (fun v h => v = some (.int out) ∧ h = (107, I, J, mm_rf rv sp rr w nw)) := by
  unfold fX12_about at e
  refine mm_T.seg (f' := (1, [some (.ref 62), some (.int x1)], [(.int x1)])) (h' := (107, I, J, mm_rf rv sp rr w nw)) 1 rfl ?_
  by_cases h1281 : x1 = 0
  · rw [if_pos h1281] at e
    refine mm_T.step (f' := (68, [some (.ref 62), some (.int x1)], [])) (h' := (107, I, J, mm_rf rv sp rr w nw)) (by first | (rw [h1281]; rfl) | exact absurd h1281 (by decide)) ?_
    refine mm_T.seg (f' := (72, [some (.ref 62), some (.int x1)], [(.int (I 62 48))])) (h' := (107, I, J, mm_rf rv sp rr w nw)) 2 rfl ?_
    cases e
    exact mm_T.ret rfl ⟨rfl, rfl⟩
  · rw [if_neg h1281] at e
    by_cases h1282 : x1 = 1
    · rw [if_pos h1282] at e
      refine mm_T.step (f' := (73, [some (.ref 62), some (.int x1)], [])) (h' := (107, I, J, mm_rf rv sp rr w nw)) (by first | (rw [h1282]; rfl) | exact absurd h1282 (by decide)) ?_
      refine mm_T.seg (f' := (77, [some (.ref 62), some (.int x1)], [(.int (I 62 49))])) (h' := (107, I, J, mm_rf rv sp rr w nw)) 2 rfl ?_
      cases e
      exact mm_T.ret rfl ⟨rfl, rfl⟩
    · rw [if_neg h1282] at e
      by_cases h1283 : x1 = 2
      · rw [if_pos h1283] at e
        refine mm_T.step (f' := (78, [some (.ref 62), some (.int x1)], [])) (h' := (107, I, J, mm_rf rv sp rr w nw)) (by first | (rw [h1283]; rfl) | exact absurd h1283 (by decide)) ?_
        refine mm_T.seg (f' := (82, [some (.ref 62), some (.int x1)], [(.int (I 62 46))])) (h' := (107, I, J, mm_rf rv sp rr w nw)) 2 rfl ?_
        cases e
        exact mm_T.ret rfl ⟨rfl, rfl⟩
      · rw [if_neg h1283] at e
        by_cases h1284 : x1 = 3
        · rw [if_pos h1284] at e
          refine mm_T.step (f' := (83, [some (.ref 62), some (.int x1)], [])) (h' := (107, I, J, mm_rf rv sp rr w nw)) (by first | (rw [h1284]; rfl) | exact absurd h1284 (by decide)) ?_
          refine mm_T.seg (f' := (87, [some (.ref 62), some (.int x1)], [(.int (I 62 47))])) (h' := (107, I, J, mm_rf rv sp rr w nw)) 2 rfl ?_
          cases e
          exact mm_T.ret rfl ⟨rfl, rfl⟩
        · rw [if_neg h1284] at e
          by_cases h1285 : x1 = 4
          · rw [if_pos h1285] at e
            refine mm_T.step (f' := (88, [some (.ref 62), some (.int x1)], [])) (h' := (107, I, J, mm_rf rv sp rr w nw)) (by first | (rw [h1285]; rfl) | exact absurd h1285 (by decide)) ?_
            refine mm_T.seg (f' := (92, [some (.ref 62), some (.int x1)], [(.int (I 62 50))])) (h' := (107, I, J, mm_rf rv sp rr w nw)) 2 rfl ?_
            cases e
            exact mm_T.ret rfl ⟨rfl, rfl⟩
          · rw [if_neg h1285] at e
            by_cases h1286 : x1 = 5
            · rw [if_pos h1286] at e
              refine mm_T.step (f' := (93, [some (.ref 62), some (.int x1)], [])) (h' := (107, I, J, mm_rf rv sp rr w nw)) (by first | (rw [h1286]; rfl) | exact absurd h1286 (by decide)) ?_
              refine mm_T.seg (f' := (100, [some (.ref 62), some (.int x1)], [(.int (I 84 27))])) (h' := (107, I, J, mm_rf rv sp rr w nw)) 4 rfl ?_
              cases e
              exact mm_T.ret rfl ⟨rfl, rfl⟩
            · rw [if_neg h1286] at e
              by_cases h1287 : x1 = 6
              · rw [if_pos h1287] at e
                refine mm_T.step (f' := (101, [some (.ref 62), some (.int x1)], [])) (h' := (107, I, J, mm_rf rv sp rr w nw)) (by first | (rw [h1287]; rfl) | exact absurd h1287 (by decide)) ?_
                refine mm_T.seg (f' := (105, [some (.ref 62), some (.int x1)], [(.int (I 62 57))])) (h' := (107, I, J, mm_rf rv sp rr w nw)) 2 rfl ?_
                cases e
                exact mm_T.ret rfl ⟨rfl, rfl⟩
              · rw [if_neg h1287] at e
                by_cases h1288 : x1 = 7
                · rw [if_pos h1288] at e
                  refine mm_T.step (f' := (106, [some (.ref 62), some (.int x1)], [])) (h' := (107, I, J, mm_rf rv sp rr w nw)) (by first | (rw [h1288]; rfl) | exact absurd h1288 (by decide)) ?_
                  refine mm_T.seg (f' := (110, [some (.ref 62), some (.int x1)], [(.int (I 62 58))])) (h' := (107, I, J, mm_rf rv sp rr w nw)) 2 rfl ?_
                  cases e
                  exact mm_T.ret rfl ⟨rfl, rfl⟩
                · rw [if_neg h1288] at e
                  by_cases h1289 : x1 = 8
                  · rw [if_pos h1289] at e
                    refine mm_T.step (f' := (111, [some (.ref 62), some (.int x1)], [])) (h' := (107, I, J, mm_rf rv sp rr w nw)) (by first | (rw [h1289]; rfl) | exact absurd h1289 (by decide)) ?_
                    refine mm_T.seg (f' := (115, [some (.ref 62), some (.int x1)], [(.int (I 62 75))])) (h' := (107, I, J, mm_rf rv sp rr w nw)) 2 rfl ?_
                    cases e
                    exact mm_T.ret rfl ⟨rfl, rfl⟩
                  · rw [if_neg h1289] at e
                    by_cases h1290 : x1 = 9
                    · rw [if_pos h1290] at e
                      refine mm_T.step (f' := (116, [some (.ref 62), some (.int x1)], [])) (h' := (107, I, J, mm_rf rv sp rr w nw)) (by first | (rw [h1290]; rfl) | exact absurd h1290 (by decide)) ?_
                      refine mm_T.seg (f' := (120, [some (.ref 62), some (.int x1)], [(.int (I 62 76))])) (h' := (107, I, J, mm_rf rv sp rr w nw)) 2 rfl ?_
                      cases e
                      exact mm_T.ret rfl ⟨rfl, rfl⟩
                    · rw [if_neg h1290] at e
                      by_cases h1291 : x1 = 10
                      · rw [if_pos h1291] at e
                        refine mm_T.step (f' := (121, [some (.ref 62), some (.int x1)], [])) (h' := (107, I, J, mm_rf rv sp rr w nw)) (by first | (rw [h1291]; rfl) | exact absurd h1291 (by decide)) ?_
                        refine mm_T.seg (f' := (125, [some (.ref 62), some (.int x1)], [(.int (I 62 1))])) (h' := (107, I, J, mm_rf rv sp rr w nw)) 2 rfl ?_
                        cases e
                        exact mm_T.ret rfl ⟨rfl, rfl⟩
                      · rw [if_neg h1291] at e
                        by_cases h1292 : x1 = 11
                        · rw [if_pos h1292] at e
                          refine mm_T.step (f' := (126, [some (.ref 62), some (.int x1)], [])) (h' := (107, I, J, mm_rf rv sp rr w nw)) (by first | (rw [h1292]; rfl) | exact absurd h1292 (by decide)) ?_
                          refine mm_T.seg (f' := (130, [some (.ref 62), some (.int x1)], [(.int (I 62 21))])) (h' := (107, I, J, mm_rf rv sp rr w nw)) 2 rfl ?_
                          cases e
                          exact mm_T.ret rfl ⟨rfl, rfl⟩
                        · rw [if_neg h1292] at e
                          by_cases h1293 : x1 = 12
                          · rw [if_pos h1293] at e
                            refine mm_T.step (f' := (131, [some (.ref 62), some (.int x1)], [])) (h' := (107, I, J, mm_rf rv sp rr w nw)) (by first | (rw [h1293]; rfl) | exact absurd h1293 (by decide)) ?_
                            refine mm_T.seg (f' := (135, [some (.ref 62), some (.int x1)], [(.int (I 62 61))])) (h' := (107, I, J, mm_rf rv sp rr w nw)) 2 rfl ?_
                            cases e
                            exact mm_T.ret rfl ⟨rfl, rfl⟩
                          · rw [if_neg h1293] at e
                            refine mm_T.tabs (lo := 0) (hi := 12) (y := ((136, [some (.ref 62), some (.int x1)], []), (107, I, J, mm_rf rv sp rr w nw))) rfl (mm_swo (0) (12) x1 [0, 1, 2, 3, 4, 5, 6, 7, 8, 9, 10, 11, 12] (by decide) (by intro z hz; simp only [List.mem_cons, List.not_mem_nil, or_false] at hz; rcases hz with rfl | rfl | rfl | rfl | rfl | rfl | rfl | rfl | rfl | rfl | rfl | rfl | rfl <;> first | assumption | decide)) ?_
                            refine mm_T.seg (f' := (137, [some (.ref 62), some (.int x1)], [(.int (-1))])) (h' := (107, I, J, mm_rf rv sp rr w nw)) 1 rfl ?_
                            cases e
                            exact mm_T.ret rfl ⟨rfl, rfl⟩
