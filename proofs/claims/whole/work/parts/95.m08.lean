set_option maxRecDepth 100000 in
set_option maxHeartbeats 4000000 in
theorem tX12_passed (d : Nat) (x1 : Int32) (x2 : Int32) (x3 : Int32) (I : Nat → Nat → Int32) (J : Nat → Nat → Int64) (rv sp rr w nw : Nat) (out : Int32 × (Nat → Nat → Int32)) (e : fX12_passed x1 x2 x3 I = some out) : mm_T none (d + 2) 318 (mm_ent 318 [(.ref 62), (.int x1), (.int x2), (.int x3)]) (107, I, J, mm_rf rv sp rr w nw) (fun v h => v = some (.int out.1) ∧ h = (107, out.2, J, mm_rf rv sp rr w nw)) := by
  unfold fX12_passed at e
  refine mm_T.seg (f' := (4, [some (.ref 62), some (.int x1), some (.int x2), some (.int x3)], [(.int 7), (.int 0), (.int x2)])) (h' := (107, I, J, mm_rf rv sp rr w nw)) 3 rfl ?_
  obtain ⟨g168, hg168⟩ : ∃ z, fX12_isIn x2 0 7 = z := ⟨_, rfl⟩
  try rw [hg168] at e
  refine mm_T.call (t := 252) (as := [(.int x2), (.int 0), (.int 7)]) (f' := (7, [some (.ref 62), some (.int x1), some (.int x2), some (.int x3)], [])) rfl (tX12_isIn (d + 1) x2 0 7 I J rv sp rr w nw g168 hg168) (fun v h hq => ?_)
  obtain ⟨rfl, rfl⟩ := hq
  refine mm_T.br (c := g168 = 0) (a := ((21, [some (.ref 62), some (.int x1), some (.int x2), some (.int x3)], []), (107, I, J, mm_rf rv sp rr w nw))) (b := ((10, [some (.ref 62), some (.int x1), some (.int x2), some (.int x3)], []), (107, I, J, mm_rf rv sp rr w nw))) rfl (fun h1153 => ?_) (fun h1153 => ?_)
  · rw [if_pos h1153] at e
    refine mm_T.seg (f' := (22, [some (.ref 62), some (.int x1), some (.int x2), some (.int x3)], [(.int (-1))])) (h' := (107, I, J, mm_rf rv sp rr w nw)) 1 rfl ?_
    cases e
    exact mm_T.ret rfl ⟨rfl, rfl⟩
  · rw [if_neg h1153] at e
    refine mm_T.seg (f' := (15, [some (.ref 62), some (.int x1), some (.int x2), some (.int x3)], [(.int x3), (.int x2), (.int x1), (.int 0), (.ref 62)])) (h' := (107, I, J, mm_rf rv sp rr w nw)) 5 rfl ?_
    obtain ⟨o1154, eo1154, e⟩ := mm_bind e
    refine mm_T.call (t := 317) (as := [(.ref 62), (.int 0), (.int x1), (.int x2), (.int x3)]) (f' := (18, [some (.ref 62), some (.int x1), some (.int x2), some (.int x3)], [])) rfl (tX12_see (d + 0) 0 x1 x2 x3 I J rv sp rr w nw o1154 eo1154) (fun v h hq => ?_)
    obtain ⟨rfl, rfl⟩ := hq
    refine mm_T.seg (f' := (22, [some (.ref 62), some (.int x1), some (.int x2), some (.int x3)], [(.int o1154.1)])) (h' := (107, o1154.2, J, mm_rf rv sp rr w nw)) 1 rfl ?_
    cases e
    exact mm_T.ret rfl ⟨rfl, rfl⟩
set_option maxRecDepth 100000 in
set_option maxHeartbeats 4000000 in
theorem tX12_felt (d : Nat) (x1 : Int32) (x2 : Int32) (x3 : Int32) (I : Nat → Nat → Int32) (J : Nat → Nat → Int64) (rv sp rr w nw : Nat) (out : Int32 × (Nat → Nat → Int32)) (e : fX12_felt x1 x2 x3 I = some out) : mm_T none (d + 2) 319 (mm_ent 319 [(.ref 62), (.int x1), (.int x2), (.int x3)]) (107, I, J, mm_rf rv sp rr w nw) (fun v h => v = some (.int out.1) ∧ h = (107, out.2, J, mm_rf rv sp rr w nw)) := by
  unfold fX12_felt at e
  refine mm_T.seg (f' := (4, [some (.ref 62), some (.int x1), some (.int x2), some (.int x3)], [(.int 99), (.int 0), (.int x2)])) (h' := (107, I, J, mm_rf rv sp rr w nw)) 3 rfl ?_
  obtain ⟨g169, hg169⟩ : ∃ z, fX12_isIn x2 0 99 = z := ⟨_, rfl⟩
  try rw [hg169] at e
  refine mm_T.call (t := 252) (as := [(.int x2), (.int 0), (.int 99)]) (f' := (7, [some (.ref 62), some (.int x1), some (.int x2), some (.int x3)], [])) rfl (tX12_isIn (d + 1) x2 0 99 I J rv sp rr w nw g169 hg169) (fun v h hq => ?_)
  obtain ⟨rfl, rfl⟩ := hq
  refine mm_T.br (c := g169 = 0) (a := ((21, [some (.ref 62), some (.int x1), some (.int x2), some (.int x3)], []), (107, I, J, mm_rf rv sp rr w nw))) (b := ((10, [some (.ref 62), some (.int x1), some (.int x2), some (.int x3)], []), (107, I, J, mm_rf rv sp rr w nw))) rfl (fun h1155 => ?_) (fun h1155 => ?_)
  · rw [if_pos h1155] at e
    refine mm_T.seg (f' := (22, [some (.ref 62), some (.int x1), some (.int x2), some (.int x3)], [(.int (-1))])) (h' := (107, I, J, mm_rf rv sp rr w nw)) 1 rfl ?_
    cases e
    exact mm_T.ret rfl ⟨rfl, rfl⟩
  · rw [if_neg h1155] at e
    refine mm_T.seg (f' := (15, [some (.ref 62), some (.int x1), some (.int x2), some (.int x3)], [(.int x3), (.int x2), (.int x1), (.int 1), (.ref 62)])) (h' := (107, I, J, mm_rf rv sp rr w nw)) 5 rfl ?_
    obtain ⟨o1156, eo1156, e⟩ := mm_bind e
    refine mm_T.call (t := 317) (as := [(.ref 62), (.int 1), (.int x1), (.int x2), (.int x3)]) (f' := (18, [some (.ref 62), some (.int x1), some (.int x2), some (.int x3)], [])) rfl (tX12_see (d + 0) 1 x1 x2 x3 I J rv sp rr w nw o1156 eo1156) (fun v h hq => ?_)
    obtain ⟨rfl, rfl⟩ := hq
    refine mm_T.seg (f' := (22, [some (.ref 62), some (.int x1), some (.int x2), some (.int x3)], [(.int o1156.1)])) (h' := (107, o1156.2, J, mm_rf rv sp rr w nw)) 1 rfl ?_
    cases e
    exact mm_T.ret rfl ⟨rfl, rfl⟩
set_option maxRecDepth 100000 in
set_option maxHeartbeats 4000000 in
theorem tX12_untell (d : Nat) (x1 : Int32) (I : Nat → Nat → Int32) (J : Nat → Nat → Int64) (rv sp rr w nw : Nat) (out : Int32 × (Nat → Nat → Int32)) (e : fX12_untell x1 I = some out) : mm_T none (d + 1) 320 (mm_ent 320 [(.ref 62), (.int x1)]) (107, I, J, mm_rf rv sp rr w nw) (fun v h => v = some (.int out.1) ∧ h = (107, out.2, J, mm_rf rv sp rr w nw)) := by
  unfold fX12_untell at e
  refine mm_T.seg (f' := (8, [some (.ref 62), some (.int x1)], [(.int ((I 62 75) - 1)), (.int 0), (.int x1)])) (h' := (107, I, J, mm_rf rv sp rr w nw)) 6 rfl ?_
  obtain ⟨g170, hg170⟩ : ∃ z, fX12_isIn x1 0 ((I 62 75) - 1) = z := ⟨_, rfl⟩
  try rw [hg170] at e
  refine mm_T.call (t := 252) (as := [(.int x1), (.int 0), (.int ((I 62 75) - 1))]) (f' := (11, [some (.ref 62), some (.int x1)], [])) rfl (tX12_isIn (d + 0) x1 0 ((I 62 75) - 1) I J rv sp rr w nw g170 hg170) (fun v h hq => ?_)
  obtain ⟨rfl, rfl⟩ := hq
  refine mm_T.br (c := g170 = 0) (a := ((23, [some (.ref 62), some (.int x1)], []), (107, I, J, mm_rf rv sp rr w nw))) (b := ((14, [some (.ref 62), some (.int x1)], []), (107, I, J, mm_rf rv sp rr w nw))) rfl (fun h1157 => ?_) (fun h1157 => ?_)
  · rw [if_pos h1157] at e
    refine mm_T.seg (f' := (24, [some (.ref 62), some (.int x1)], [(.int 0)])) (h' := (107, I, J, mm_rf rv sp rr w nw)) 1 rfl ?_
    cases e
    exact mm_T.ret rfl ⟨rfl, rfl⟩
  · rw [if_neg h1157] at e
    refine mm_T.seg (f' := (18, [some (.ref 62), some (.int x1)], [(.ref 100)])) (h' := (107, I, J, mm_rf rv sp rr w nw)) 2 rfl ?_
    refine mm_T.seg (f' := (19, [some (.ref 62), some (.int x1)], [(.int x1), (.ref 100)])) (h' := (107, I, J, mm_rf rv sp rr w nw)) 1 rfl ?_
    by_cases h1158 : x1 < 0 ∨ 30 ≤ x1.toNatClampNeg
    · rw [if_pos h1158] at e; cases e
    rw [if_neg h1158] at e
    refine mm_T.guard (y := ((20, [some (.ref 62), some (.int x1)], [(.int (I 100 x1.toNatClampNeg))]), (107, I, J, mm_rf rv sp rr w nw))) rfl h1158 ?_
    refine mm_T.br (c := (I 100 x1.toNatClampNeg) < 0) (a := ((25, [some (.ref 62), some (.int x1)], []), (107, I, J, mm_rf rv sp rr w nw))) (b := ((23, [some (.ref 62), some (.int x1)], []), (107, I, J, mm_rf rv sp rr w nw))) rfl (fun h1159 => ?_) (fun h1159 => ?_)
    · rw [if_pos h1159] at e
      refine mm_T.seg (f' := (29, [some (.ref 62), some (.int x1)], [(.ref 100)])) (h' := (107, I, J, mm_rf rv sp rr w nw)) 2 rfl ?_
      refine mm_T.seg (f' := (34, [some (.ref 62), some (.int x1)], [(.int (I 62 76)), (.int x1), (.ref 100)])) (h' := (107, I, J, mm_rf rv sp rr w nw)) 3 rfl ?_
      by_cases h1160 : x1 < 0 ∨ 30 ≤ x1.toNatClampNeg
      · rw [if_pos h1160] at e; cases e
      rw [if_neg h1160] at e
      refine mm_T.guard (y := ((35, [some (.ref 62), some (.int x1)], []), (107, (mm_up I 100 x1.toNatClampNeg (I 62 76)), J, mm_rf rv sp rr w nw))) rfl h1160 ?_
      refine mm_T.seg (f' := (36, [some (.ref 62), some (.int x1)], [(.int 1)])) (h' := (107, (mm_up I 100 x1.toNatClampNeg (I 62 76)), J, mm_rf rv sp rr w nw)) 1 rfl ?_
      cases e
      exact mm_T.ret rfl ⟨rfl, rfl⟩
    · rw [if_neg h1159] at e
      refine mm_T.seg (f' := (24, [some (.ref 62), some (.int x1)], [(.int 0)])) (h' := (107, I, J, mm_rf rv sp rr w nw)) 1 rfl ?_
      cases e
      exact mm_T.ret rfl ⟨rfl, rfl⟩
set_option maxRecDepth 100000 in
set_option maxHeartbeats 4000000 in
theorem tX12_later (d : Nat) (x1 : Int32) (I : Nat → Nat → Int32) (J : Nat → Nat → Int64) (rv sp rr w nw : Nat) (out : Int32 × (Nat → Nat → Int32)) (e : fX12_later x1 I = out) : mm_T none (d + 0) 321 (mm_ent 321 [(.ref 62), (.int x1)]) (107, I, J, mm_rf rv sp rr w nw) (fun v h => v = some (.int out.1) ∧ h = (107, out.2, J, mm_rf rv sp rr w nw)) := by
  unfold fX12_later at e
  refine mm_T.seg (f' := (1, [some (.ref 62), some (.int x1)], [(.int x1)])) (h' := (107, I, J, mm_rf rv sp rr w nw)) 1 rfl ?_
  refine mm_T.br (c := x1 < 0) (a := ((23, [some (.ref 62), some (.int x1)], []), (107, I, J, mm_rf rv sp rr w nw))) (b := ((4, [some (.ref 62), some (.int x1)], []), (107, I, J, mm_rf rv sp rr w nw))) rfl (fun h1161 => ?_) (fun h1161 => ?_)
  · rw [if_pos h1161] at e
    refine mm_T.seg (f' := (24, [some (.ref 62), some (.int x1)], [(.int (-1))])) (h' := (107, I, J, mm_rf rv sp rr w nw)) 1 rfl ?_
    cases e
    exact mm_T.ret rfl ⟨rfl, rfl⟩
  · rw [if_neg h1161] at e
    refine mm_T.seg (f' := (8, [some (.ref 62), some (.int x1)], [(.int 1000), (.int x1)])) (h' := (107, I, J, mm_rf rv sp rr w nw)) 2 rfl ?_
    refine mm_T.br (c := 1000 < x1) (a := ((23, [some (.ref 62), some (.int x1)], []), (107, I, J, mm_rf rv sp rr w nw))) (b := ((11, [some (.ref 62), some (.int x1)], []), (107, I, J, mm_rf rv sp rr w nw))) rfl (fun h1162 => ?_) (fun h1162 => ?_)
    · rw [if_pos h1162] at e
      refine mm_T.seg (f' := (24, [some (.ref 62), some (.int x1)], [(.int (-1))])) (h' := (107, I, J, mm_rf rv sp rr w nw)) 1 rfl ?_
      cases e
      exact mm_T.ret rfl ⟨rfl, rfl⟩
    · rw [if_neg h1162] at e
      refine mm_T.seg (f' := (20, [some (.ref 62), some (.int x1)], [(.int 100000), (.int ((I 62 76) + x1))])) (h' := (107, I, J, mm_rf rv sp rr w nw)) 5 rfl ?_
      refine mm_T.br (c := 100000 < ((I 62 76) + x1)) (a := ((23, [some (.ref 62), some (.int x1)], []), (107, I, J, mm_rf rv sp rr w nw))) (b := ((25, [some (.ref 62), some (.int x1)], []), (107, I, J, mm_rf rv sp rr w nw))) rfl (fun h1163 => ?_) (fun h1163 => ?_)
      · rw [if_pos h1163] at e
        refine mm_T.seg (f' := (24, [some (.ref 62), some (.int x1)], [(.int (-1))])) (h' := (107, I, J, mm_rf rv sp rr w nw)) 1 rfl ?_
        cases e
        exact mm_T.ret rfl ⟨rfl, rfl⟩
      · rw [if_neg h1163] at e
        refine mm_T.seg (f' := (39, [some (.ref 62), some (.int x1)], [(.int ((I 62 76) + x1))])) (h' := (107, (mm_up I 62 76 ((I 62 76) + x1)), J, mm_rf rv sp rr w nw)) 8 rfl ?_
        cases e
        exact mm_T.ret rfl ⟨rfl, rfl⟩
set_option maxRecDepth 100000 in
set_option maxHeartbeats 4000000 in
theorem tX12_isSo (d : Nat) (x1 : Int32) (I : Nat → Nat → Int32) (J : Nat → Nat → Int64) (rv sp rr w nw : Nat) (out : Int32) (e : fX12_isSo x1 I = some out) : mm_T none (d + 0) 322 (mm_ent 322 [(.ref 62), (.int x1)]) (107, I, J, mm_rf rv sp rr w nw) (fun v h => v = some (.int out) ∧ h = (107, I, J, mm_rf rv sp rr w nw)) := by
  unfold fX12_isSo at e
  refine mm_T.seg (f' := (4, [some (.ref 62), some (.int x1), none], [(.ref 97)])) (h' := (107, I, J, mm_rf rv sp rr w nw)) 2 rfl ?_
  refine mm_T.seg (f' := (5, [some (.ref 62), some (.int x1), none], [(.int x1), (.ref 97)])) (h' := (107, I, J, mm_rf rv sp rr w nw)) 1 rfl ?_
  by_cases h1164 : x1 < 0 ∨ 30 ≤ x1.toNatClampNeg
  · rw [if_pos h1164] at e; cases e
  rw [if_neg h1164] at e
  refine mm_T.guard (y := ((6, [some (.ref 62), some (.int x1), none], [(.int (I 97 x1.toNatClampNeg))]), (107, I, J, mm_rf rv sp rr w nw))) rfl h1164 ?_
  refine mm_T.seg (f' := (13, [some (.ref 62), some (.int x1), some (.int ((I 97 x1.toNatClampNeg) - 1))], [(.ref 96)])) (h' := (107, I, J, mm_rf rv sp rr w nw)) 5 rfl ?_
  refine mm_T.seg (f' := (14, [some (.ref 62), some (.int x1), some (.int ((I 97 x1.toNatClampNeg) - 1))], [(.int x1), (.ref 96)])) (h' := (107, I, J, mm_rf rv sp rr w nw)) 1 rfl ?_
  by_cases h1165 : x1 < 0 ∨ 30 ≤ x1.toNatClampNeg
  · rw [if_pos h1165] at e; cases e
  rw [if_neg h1165] at e
  refine mm_T.guard (y := ((15, [some (.ref 62), some (.int x1), some (.int ((I 97 x1.toNatClampNeg) - 1))], [(.int (I 96 x1.toNatClampNeg))]), (107, I, J, mm_rf rv sp rr w nw))) rfl h1165 ?_
  refine mm_T.br (c := (I 96 x1.toNatClampNeg) = 0) (a := ((18, [some (.ref 62), some (.int x1), some (.int ((I 97 x1.toNatClampNeg) - 1))], []), (107, I, J, mm_rf rv sp rr w nw))) (b := ((27, [some (.ref 62), some (.int x1), some (.int ((I 97 x1.toNatClampNeg) - 1))], []), (107, I, J, mm_rf rv sp rr w nw))) rfl (fun h1166 => ?_) (fun h1166 => ?_)
  · rw [if_pos h1166] at e
    refine mm_T.seg (f' := (22, [some (.ref 62), some (.int x1), some (.int ((I 97 x1.toNatClampNeg) - 1))], [(.ref 102)])) (h' := (107, I, J, mm_rf rv sp rr w nw)) 2 rfl ?_
    refine mm_T.seg (f' := (23, [some (.ref 62), some (.int x1), some (.int ((I 97 x1.toNatClampNeg) - 1))], [(.int ((I 97 x1.toNatClampNeg) - 1)), (.ref 102)])) (h' := (107, I, J, mm_rf rv sp rr w nw)) 1 rfl ?_
    by_cases h1167 : ((I 97 x1.toNatClampNeg) - 1) < 0 ∨ 6 ≤ ((I 97 x1.toNatClampNeg) - 1).toNatClampNeg
    · rw [if_pos h1167] at e; cases e
    rw [if_neg h1167] at e
    refine mm_T.guard (c := ((I 97 x1.toNatClampNeg) - 1) < 0 ∨ 6 ≤ ((I 97 x1.toNatClampNeg) - 1).toNatClampNeg) (y := ((24, [some (.ref 62), some (.int x1), some (.int ((I 97 x1.toNatClampNeg) - 1))], [(.int (I 102 ((I 97 x1.toNatClampNeg) - 1).toNatClampNeg))]), (107, I, J, mm_rf rv sp rr w nw))) (mm_gen (P := fun z => mm_stp none 322 (23, [some (.ref 62), some (.int x1), some (.int z)], [(.int z), (.ref 102)]) (107, I, J, mm_rf rv sp rr w nw) = if z < 0 ∨ 6 ≤ z.toNatClampNeg then none else some (.inl ((24, [some (.ref 62), some (.int x1), some (.int z)], [(.int (I 102 z.toNatClampNeg))]), (107, I, J, mm_rf rv sp rr w nw)))) ((I 97 x1.toNatClampNeg) - 1) (fun z => rfl)) h1167 ?_
    refine mm_T.seg (f' := (37, [some (.ref 62), some (.int x1), some (.int ((I 97 x1.toNatClampNeg) - 1))], [(.ref 98), (.int (I 102 ((I 97 x1.toNatClampNeg) - 1).toNatClampNeg))])) (h' := (107, I, J, mm_rf rv sp rr w nw)) 3 rfl ?_
    refine mm_T.seg (f' := (38, [some (.ref 62), some (.int x1), some (.int ((I 97 x1.toNatClampNeg) - 1))], [(.int x1), (.ref 98), (.int (I 102 ((I 97 x1.toNatClampNeg) - 1).toNatClampNeg))])) (h' := (107, I, J, mm_rf rv sp rr w nw)) 1 rfl ?_
    by_cases h1168 : x1 < 0 ∨ 30 ≤ x1.toNatClampNeg
    · rw [if_pos h1168] at e; cases e
    rw [if_neg h1168] at e
    refine mm_T.guard (y := ((39, [some (.ref 62), some (.int x1), some (.int ((I 97 x1.toNatClampNeg) - 1))], [(.int (I 98 x1.toNatClampNeg)), (.int (I 102 ((I 97 x1.toNatClampNeg) - 1).toNatClampNeg))]), (107, I, J, mm_rf rv sp rr w nw))) rfl h1168 ?_
    refine mm_T.br (c := (I 102 ((I 97 x1.toNatClampNeg) - 1).toNatClampNeg) < (I 98 x1.toNatClampNeg)) (a := ((46, [some (.ref 62), some (.int x1), some (.int ((I 97 x1.toNatClampNeg) - 1))], []), (107, I, J, mm_rf rv sp rr w nw))) (b := ((42, [some (.ref 62), some (.int x1), some (.int ((I 97 x1.toNatClampNeg) - 1))], []), (107, I, J, mm_rf rv sp rr w nw))) rfl (fun h1169 => ?_) (fun h1169 => ?_)
    · rw [if_pos h1169] at e
      refine mm_T.seg (f' := (47, [some (.ref 62), some (.int x1), some (.int ((I 97 x1.toNatClampNeg) - 1))], [(.int 0)])) (h' := (107, I, J, mm_rf rv sp rr w nw)) 1 rfl ?_
      cases e
      exact mm_T.ret rfl ⟨rfl, rfl⟩
    · rw [if_neg h1169] at e
      refine mm_T.seg (f' := (47, [some (.ref 62), some (.int x1), some (.int ((I 97 x1.toNatClampNeg) - 1))], [(.int 1)])) (h' := (107, I, J, mm_rf rv sp rr w nw)) 2 rfl ?_
      cases e
      exact mm_T.ret rfl ⟨rfl, rfl⟩
  · rw [if_neg h1166] at e
    refine mm_T.seg (f' := (31, [some (.ref 62), some (.int x1), some (.int ((I 97 x1.toNatClampNeg) - 1))], [(.ref 103)])) (h' := (107, I, J, mm_rf rv sp rr w nw)) 2 rfl ?_
    refine mm_T.seg (f' := (32, [some (.ref 62), some (.int x1), some (.int ((I 97 x1.toNatClampNeg) - 1))], [(.int ((I 97 x1.toNatClampNeg) - 1)), (.ref 103)])) (h' := (107, I, J, mm_rf rv sp rr w nw)) 1 rfl ?_
    by_cases h1170 : ((I 97 x1.toNatClampNeg) - 1) < 0 ∨ 6 ≤ ((I 97 x1.toNatClampNeg) - 1).toNatClampNeg
    · rw [if_pos h1170] at e; cases e
    rw [if_neg h1170] at e
    refine mm_T.guard (c := ((I 97 x1.toNatClampNeg) - 1) < 0 ∨ 6 ≤ ((I 97 x1.toNatClampNeg) - 1).toNatClampNeg) (y := ((33, [some (.ref 62), some (.int x1), some (.int ((I 97 x1.toNatClampNeg) - 1))], [(.int (I 103 ((I 97 x1.toNatClampNeg) - 1).toNatClampNeg))]), (107, I, J, mm_rf rv sp rr w nw))) (mm_gen (P := fun z => mm_stp none 322 (32, [some (.ref 62), some (.int x1), some (.int z)], [(.int z), (.ref 103)]) (107, I, J, mm_rf rv sp rr w nw) = if z < 0 ∨ 6 ≤ z.toNatClampNeg then none else some (.inl ((33, [some (.ref 62), some (.int x1), some (.int z)], [(.int (I 103 z.toNatClampNeg))]), (107, I, J, mm_rf rv sp rr w nw)))) ((I 97 x1.toNatClampNeg) - 1) (fun z => rfl)) h1170 ?_
    refine mm_T.seg (f' := (37, [some (.ref 62), some (.int x1), some (.int ((I 97 x1.toNatClampNeg) - 1))], [(.ref 98), (.int (I 103 ((I 97 x1.toNatClampNeg) - 1).toNatClampNeg))])) (h' := (107, I, J, mm_rf rv sp rr w nw)) 2 rfl ?_
    refine mm_T.seg (f' := (38, [some (.ref 62), some (.int x1), some (.int ((I 97 x1.toNatClampNeg) - 1))], [(.int x1), (.ref 98), (.int (I 103 ((I 97 x1.toNatClampNeg) - 1).toNatClampNeg))])) (h' := (107, I, J, mm_rf rv sp rr w nw)) 1 rfl ?_
    by_cases h1171 : x1 < 0 ∨ 30 ≤ x1.toNatClampNeg
    · rw [if_pos h1171] at e; cases e
    rw [if_neg h1171] at e
    refine mm_T.guard (y := ((39, [some (.ref 62), some (.int x1), some (.int ((I 97 x1.toNatClampNeg) - 1))], [(.int (I 98 x1.toNatClampNeg)), (.int (I 103 ((I 97 x1.toNatClampNeg) - 1).toNatClampNeg))]), (107, I, J, mm_rf rv sp rr w nw))) rfl h1171 ?_
    refine mm_T.br (c := (I 103 ((I 97 x1.toNatClampNeg) - 1).toNatClampNeg) < (I 98 x1.toNatClampNeg)) (a := ((46, [some (.ref 62), some (.int x1), some (.int ((I 97 x1.toNatClampNeg) - 1))], []), (107, I, J, mm_rf rv sp rr w nw))) (b := ((42, [some (.ref 62), some (.int x1), some (.int ((I 97 x1.toNatClampNeg) - 1))], []), (107, I, J, mm_rf rv sp rr w nw))) rfl (fun h1172 => ?_) (fun h1172 => ?_)
    · rw [if_pos h1172] at e
      refine mm_T.seg (f' := (47, [some (.ref 62), some (.int x1), some (.int ((I 97 x1.toNatClampNeg) - 1))], [(.int 0)])) (h' := (107, I, J, mm_rf rv sp rr w nw)) 1 rfl ?_
      cases e
      exact mm_T.ret rfl ⟨rfl, rfl⟩
    · rw [if_neg h1172] at e
      refine mm_T.seg (f' := (47, [some (.ref 62), some (.int x1), some (.int ((I 97 x1.toNatClampNeg) - 1))], [(.int 1)])) (h' := (107, I, J, mm_rf rv sp rr w nw)) 2 rfl ?_
      cases e
      exact mm_T.ret rfl ⟨rfl, rfl⟩
set_option maxRecDepth 100000 in
set_option maxHeartbeats 4000000 in
theorem tlX12_layFits_L4 (d : Nat) (Q : Option Value → mm_H → Prop) : ∀ (n : Nat) (y1 : Int32) (y2 : Int32) (y3 : Int32) (I : Nat → Nat → Int32) (J : Nat → Nat → Int64) (rv sp rr w nw : Nat), ∀ (out : (Nat → Nat → Int32)), fX12_layFits_L4 n y1 y2 y3 I = some out → mm_T none (d + 4) 323 (23, [some (.ref 62), some (.int y1), some (.int y2), none, none, none, none], []) (107, out, J, mm_rf rv sp rr w nw) Q → mm_T none (d + 4) 323 (4, [some (.ref 62), some (.int y1), some (.int y2), some (.int y3), none, none, none], []) (107, I, J, mm_rf rv sp rr w nw) Q := by
  intro n
  induction n with
  | zero =>
    intro y1 y2 y3 I J rv sp rr w nw out e k
    rw [fX12_layFits_L4] at e; cases e
  | succ n ih =>
    intro y1 y2 y3 I J rv sp rr w nw out e k
    rw [fX12_layFits_L4] at e
    refine mm_T.seg (f' := (7, [some (.ref 62), some (.int y1), some (.int y2), some (.int y3), none, none, none], [(.int 18), (.int y3)])) (h' := (107, I, J, mm_rf rv sp rr w nw)) 2 rfl ?_
    refine mm_T.br (c := y3 < 18) (a := ((10, [some (.ref 62), some (.int y1), some (.int y2), some (.int y3), none, none, none], []), (107, I, J, mm_rf rv sp rr w nw))) (b := ((23, [some (.ref 62), some (.int y1), some (.int y2), some (.int y3), none, none, none], []), (107, I, J, mm_rf rv sp rr w nw))) rfl (fun h1173 => ?_) (fun h1173 => ?_)
    · rw [if_pos h1173] at e
      refine mm_T.seg (f' := (14, [some (.ref 62), some (.int y1), some (.int y2), some (.int y3), none, none, none], [(.ref 104)])) (h' := (107, I, J, mm_rf rv sp rr w nw)) 2 rfl ?_
      refine mm_T.seg (f' := (16, [some (.ref 62), some (.int y1), some (.int y2), some (.int y3), none, none, none], [(.int 0), (.int y3), (.ref 104)])) (h' := (107, I, J, mm_rf rv sp rr w nw)) 2 rfl ?_
      by_cases h1174 : y3 < 0 ∨ 18 ≤ y3.toNatClampNeg
      · rw [if_pos h1174] at e; cases e
      rw [if_neg h1174] at e
      refine mm_T.guard (y := ((17, [some (.ref 62), some (.int y1), some (.int y2), some (.int y3), none, none, none], []), (107, (mm_up I 104 y3.toNatClampNeg 0), J, mm_rf rv sp rr w nw))) rfl h1174 ?_
      refine mm_T.seg (f' := (4, [some (.ref 62), some (.int y1), some (.int y2), some (.int (y3 + 1)), none, none, none], [])) (h' := (107, (mm_up I 104 y3.toNatClampNeg 0), J, mm_rf rv sp rr w nw)) 2 rfl ?_
      refine mm_T.mask [true, true, true, true, false, false, false] ?_
      exact ih y1 y2 (y3 + 1) (mm_up I 104 y3.toNatClampNeg 0) J rv sp rr w nw out e k
    · rw [if_neg h1173] at e
      cases e
      refine mm_T.mask [true, true, true, false, false, false, false] ?_
      exact k
set_option maxRecDepth 100000 in
set_option maxHeartbeats 4000000 in
theorem tlX12_layFits_L47 (d : Nat) (Q : Option Value → mm_H → Prop) : ∀ (n : Nat) (y1 : Int32) (y2 : Int32) (y3 : Int32) (y4 : Int32) (I : Nat → Nat → Int32) (J : Nat → Nat → Int64) (rv sp rr w nw : Nat), ∀ (out : (Nat → Nat → Int32)), fX12_layFits_L47 n y1 y2 y3 y4 I = some out → mm_T none (d + 4) 323 (68, [some (.ref 62), some (.int y1), some (.int y2), some (.int y3), none, none, none], []) (107, out, J, mm_rf rv sp rr w nw) Q → mm_T none (d + 4) 323 (47, [some (.ref 62), some (.int y1), some (.int y2), some (.int y3), some (.int y4), none, none], []) (107, I, J, mm_rf rv sp rr w nw) Q := by
  intro n
  induction n with
  | zero =>
    intro y1 y2 y3 y4 I J rv sp rr w nw out e k
    rw [fX12_layFits_L47] at e; cases e
  | succ n ih =>
    intro y1 y2 y3 y4 I J rv sp rr w nw out e k
    rw [fX12_layFits_L47] at e
    refine mm_T.seg (f' := (51, [some (.ref 62), some (.int y1), some (.int y2), some (.int y3), some (.int y4), none, none], [(.int 28), (.int y4)])) (h' := (107, I, J, mm_rf rv sp rr w nw)) 2 rfl ?_
    refine mm_T.br (c := y4 < 28) (a := ((54, [some (.ref 62), some (.int y1), some (.int y2), some (.int y3), some (.int y4), none, none], []), (107, I, J, mm_rf rv sp rr w nw))) (b := ((68, [some (.ref 62), some (.int y1), some (.int y2), some (.int y3), some (.int y4), none, none], []), (107, I, J, mm_rf rv sp rr w nw))) rfl (fun h1179 => ?_) (fun h1179 => ?_)
    · rw [if_pos h1179] at e
      refine mm_T.seg (f' := (58, [some (.ref 62), some (.int y1), some (.int y2), some (.int y3), some (.int y4), none, none], [(.ref 85)])) (h' := (107, I, J, mm_rf rv sp rr w nw)) 2 rfl ?_
      refine mm_T.seg (f' := (61, [some (.ref 62), some (.int y1), some (.int y2), some (.int y3), some (.int y4), none, none], [(.int 0), (.int y4), (.ref 85)])) (h' := (107, I, J, mm_rf rv sp rr w nw)) 2 rfl ?_
      by_cases h1180 : y4 < 0 ∨ 28 ≤ y4.toNatClampNeg
      · rw [if_pos h1180] at e; cases e
      rw [if_neg h1180] at e
      refine mm_T.guard (y := ((62, [some (.ref 62), some (.int y1), some (.int y2), some (.int y3), some (.int y4), none, none], []), (107, (mm_up I 85 y4.toNatClampNeg 0), J, mm_rf rv sp rr w nw))) rfl h1180 ?_
      refine mm_T.seg (f' := (47, [some (.ref 62), some (.int y1), some (.int y2), some (.int y3), some (.int (y4 + 1)), none, none], [])) (h' := (107, (mm_up I 85 y4.toNatClampNeg 0), J, mm_rf rv sp rr w nw)) 2 rfl ?_
      refine mm_T.mask [true, true, true, true, true, false, false] ?_
      exact ih y1 y2 y3 (y4 + 1) (mm_up I 85 y4.toNatClampNeg 0) J rv sp rr w nw out e k
    · rw [if_neg h1179] at e
      cases e
      refine mm_T.mask [true, true, true, true, false, false, false] ?_
      exact k
set_option maxRecDepth 100000 in
set_option maxHeartbeats 4000000 in
theorem tlX12_layFits_L71 (d : Nat) (Q : Option Value → mm_H → Prop) : ∀ (n : Nat) (y1 : Int32) (y2 : Int32) (y3 : Int32) (y4 : Int32) (I : Nat → Nat → Int32) (J : Nat → Nat → Int64) (rv sp rr w nw : Nat), ∀ (out : (Nat → Nat → Int32)), fX12_layFits_L71 n y1 y2 y3 y4 I = some out → mm_T none (d + 4) 323 (97, [some (.ref 62), some (.int y1), some (.int y2), some (.int y3), none, none, none], []) (107, out, J, mm_rf rv sp rr w nw) Q → mm_T none (d + 4) 323 (71, [some (.ref 62), some (.int y1), some (.int y2), some (.int y3), some (.int y4), none, none], []) (107, I, J, mm_rf rv sp rr w nw) Q := by
  intro n
  induction n with
  | zero =>
    intro y1 y2 y3 y4 I J rv sp rr w nw out e k
    rw [fX12_layFits_L71] at e; cases e
  | succ n ih =>
    intro y1 y2 y3 y4 I J rv sp rr w nw out e k
    rw [fX12_layFits_L71] at e
    refine mm_T.seg (f' := (77, [some (.ref 62), some (.int y1), some (.int y2), some (.int y3), some (.int y4), none, none], [(.int (I 62 49)), (.int y4)])) (h' := (107, I, J, mm_rf rv sp rr w nw)) 3 rfl ?_
    refine mm_T.br (c := y4 < (I 62 49)) (a := ((80, [some (.ref 62), some (.int y1), some (.int y2), some (.int y3), some (.int y4), none, none], []), (107, I, J, mm_rf rv sp rr w nw))) (b := ((97, [some (.ref 62), some (.int y1), some (.int y2), some (.int y3), some (.int y4), none, none], []), (107, I, J, mm_rf rv sp rr w nw))) rfl (fun h1182 => ?_) (fun h1182 => ?_)
    · rw [if_pos h1182] at e
      refine mm_T.seg (f' := (84, [some (.ref 62), some (.int y1), some (.int y2), some (.int y3), some (.int y4), none, none], [(.ref 85)])) (h' := (107, I, J, mm_rf rv sp rr w nw)) 2 rfl ?_
      refine mm_T.seg (f' := (90, [some (.ref 62), some (.int y1), some (.int y2), some (.int y3), some (.int y4), none, none], [(.int (-1)), (.int (20 + y4)), (.ref 85)])) (h' := (107, I, J, mm_rf rv sp rr w nw)) 4 rfl ?_
      by_cases h1183 : (20 + y4) < 0 ∨ 28 ≤ (20 + y4).toNatClampNeg
      · rw [if_pos h1183] at e; cases e
      rw [if_neg h1183] at e
      refine mm_T.guard (c := (20 + y4) < 0 ∨ 28 ≤ (20 + y4).toNatClampNeg) (y := ((91, [some (.ref 62), some (.int y1), some (.int y2), some (.int y3), some (.int y4), none, none], []), (107, (mm_up I 85 (20 + y4).toNatClampNeg (-1)), J, mm_rf rv sp rr w nw))) (mm_gen (P := fun z => mm_stp none 323 (90, [some (.ref 62), some (.int y1), some (.int y2), some (.int y3), some (.int y4), none, none], [(.int (-1)), (.int z), (.ref 85)]) (107, I, J, mm_rf rv sp rr w nw) = if z < 0 ∨ 28 ≤ z.toNatClampNeg then none else some (.inl ((91, [some (.ref 62), some (.int y1), some (.int y2), some (.int y3), some (.int y4), none, none], []), (107, (mm_up I 85 z.toNatClampNeg (-1)), J, mm_rf rv sp rr w nw)))) (20 + y4) (fun z => rfl)) h1183 ?_
      refine mm_T.seg (f' := (71, [some (.ref 62), some (.int y1), some (.int y2), some (.int y3), some (.int (y4 + 1)), none, none], [])) (h' := (107, (mm_up I 85 (20 + y4).toNatClampNeg (-1)), J, mm_rf rv sp rr w nw)) 2 rfl ?_
      refine mm_T.mask [true, true, true, true, true, false, false] ?_
      exact ih y1 y2 y3 (y4 + 1) (mm_up I 85 (20 + y4).toNatClampNeg (-1)) J rv sp rr w nw out e k
    · rw [if_neg h1182] at e
      cases e
      refine mm_T.mask [true, true, true, true, false, false, false] ?_
      exact k
set_option maxRecDepth 100000 in
set_option maxHeartbeats 4000000 in
theorem tlX12_layFits_L115 (d : Nat) (Q : Option Value → mm_H → Prop) : ∀ (n : Nat) (y1 : Int32) (y2 : Int32) (y3 : Int32) (y4 : Int32) (y5 : Int32) (I : Nat → Nat → Int32) (J : Nat → Nat → Int64) (rv sp rr w nw : Nat), ∀ (out : (Nat → Nat → Int32)), fX12_layFits_L115 n y1 y2 y3 y4 y5 I = some out → mm_T none (d + 4) 323 (191, [some (.ref 62), some (.int y1), some (.int y2), some (.int y3), none, none, none], []) (107, out, J, mm_rf rv sp rr w nw) Q → mm_T none (d + 4) 323 (115, [some (.ref 62), some (.int y1), some (.int y2), some (.int y3), some (.int y4), some (.int y5), none], []) (107, I, J, mm_rf rv sp rr w nw) Q := by
  intro n
  induction n with
  | zero =>
    intro y1 y2 y3 y4 y5 I J rv sp rr w nw out e k
    rw [fX12_layFits_L115] at e; cases e
  | succ n ih =>
    intro y1 y2 y3 y4 y5 I J rv sp rr w nw out e k
    rw [fX12_layFits_L115] at e
    refine mm_T.seg (f' := (121, [some (.ref 62), some (.int y1), some (.int y2), some (.int y3), some (.int y4), some (.int y5), none], [(.int (I 62 47)), (.int y5)])) (h' := (107, I, J, mm_rf rv sp rr w nw)) 3 rfl ?_
    refine mm_T.br (c := y5 < (I 62 47)) (a := ((124, [some (.ref 62), some (.int y1), some (.int y2), some (.int y3), some (.int y4), some (.int y5), none], []), (107, I, J, mm_rf rv sp rr w nw))) (b := ((191, [some (.ref 62), some (.int y1), some (.int y2), some (.int y3), some (.int y4), some (.int y5), none], []), (107, I, J, mm_rf rv sp rr w nw))) rfl (fun h1185 => ?_) (fun h1185 => ?_)
    · rw [if_pos h1185] at e
      refine mm_T.seg (f' := (128, [some (.ref 62), some (.int y1), some (.int y2), some (.int y3), some (.int y4), some (.int y5), none], [(.ref 87)])) (h' := (107, I, J, mm_rf rv sp rr w nw)) 2 rfl ?_
      refine mm_T.seg (f' := (136, [some (.ref 62), some (.int y1), some (.int y2), some (.int y3), some (.int y4), some (.int y5), none], [(.int ((y4 - y4 / 3 * 3) - 1)), (.int y5), (.ref 87)])) (h' := (107, I, J, mm_rf rv sp rr w nw)) 6 rfl ?_
      by_cases h1186 : y5 < 0 ∨ 6 ≤ y5.toNatClampNeg
      · rw [if_pos h1186] at e; cases e
      rw [if_neg h1186] at e
      refine mm_T.guard (y := ((137, [some (.ref 62), some (.int y1), some (.int y2), some (.int y3), some (.int y4), some (.int y5), none], []), (107, (mm_up I 87 y5.toNatClampNeg ((y4 - y4 / 3 * 3) - 1)), J, mm_rf rv sp rr w nw))) rfl h1186 ?_
      refine mm_T.seg (f' := (149, [some (.ref 62), some (.int y1), some (.int y2), some (.int y3), some (.int (y4 / 3)), some (.int y5), none], [(.ref 87), (.int 0), (.ref 62)])) (h' := (107, (mm_up I 87 y5.toNatClampNeg ((y4 - y4 / 3 * 3) - 1)), J, mm_rf rv sp rr w nw)) 8 rfl ?_
      refine mm_T.seg (f' := (151, [some (.ref 62), some (.int y1), some (.int y2), some (.int y3), some (.int (y4 / 3)), some (.int y5), none], [(.int y5), (.ref 87), (.int 0), (.ref 62)])) (h' := (107, (mm_up I 87 y5.toNatClampNeg ((y4 - y4 / 3 * 3) - 1)), J, mm_rf rv sp rr w nw)) 1 rfl ?_
      by_cases h1187 : y5 < 0 ∨ 6 ≤ y5.toNatClampNeg
      · rw [if_pos h1187] at e; cases e
      rw [if_neg h1187] at e
      refine mm_T.guard (y := ((152, [some (.ref 62), some (.int y1), some (.int y2), some (.int y3), some (.int (y4 / 3)), some (.int y5), none], [(.int ((mm_up I 87 y5.toNatClampNeg ((y4 - y4 / 3 * 3) - 1)) 87 y5.toNatClampNeg)), (.int 0), (.ref 62)]), (107, (mm_up I 87 y5.toNatClampNeg ((y4 - y4 / 3 * 3) - 1)), J, mm_rf rv sp rr w nw))) rfl h1187 ?_
      refine mm_T.seg (f' := (154, [some (.ref 62), some (.int y1), some (.int y2), some (.int y3), some (.int (y4 / 3)), some (.int y5), none], [(.int 1), (.int 1), (.int ((mm_up I 87 y5.toNatClampNeg ((y4 - y4 / 3 * 3) - 1)) 87 y5.toNatClampNeg)), (.int 0), (.ref 62)])) (h' := (107, (mm_up I 87 y5.toNatClampNeg ((y4 - y4 / 3 * 3) - 1)), J, mm_rf rv sp rr w nw)) 2 rfl ?_
      obtain ⟨o1188, eo1188, e⟩ := mm_bind e
      refine mm_T.call (t := 261) (as := [(.ref 62), (.int 0), (.int ((mm_up I 87 y5.toNatClampNeg ((y4 - y4 / 3 * 3) - 1)) 87 y5.toNatClampNeg)), (.int 1), (.int 1)]) (f' := (157, [some (.ref 62), some (.int y1), some (.int y2), some (.int y3), some (.int (y4 / 3)), some (.int y5), none], [])) rfl (tX12_goStroke (d + 0) n 0 ((mm_up I 87 y5.toNatClampNeg ((y4 - y4 / 3 * 3) - 1)) 87 y5.toNatClampNeg) 1 1 (mm_up I 87 y5.toNatClampNeg ((y4 - y4 / 3 * 3) - 1)) J rv sp rr w nw o1188 eo1188) (fun v h hq => ?_)
      obtain ⟨rfl, rfl⟩ := hq
      refine mm_T.seg (f' := (162, [some (.ref 62), some (.int y1), some (.int y2), some (.int y3), some (.int (y4 / 3)), some (.int y5), none], [(.ref 102)])) (h' := (107, o1188.2, J, mm_rf rv sp rr w nw)) 3 rfl ?_
      refine mm_T.seg (f' := (168, [some (.ref 62), some (.int y1), some (.int y2), some (.int y3), some (.int (y4 / 3)), some (.int y5), none], [(.ref 85), (.int y5), (.ref 102)])) (h' := (107, o1188.2, J, mm_rf rv sp rr w nw)) 3 rfl ?_
      refine mm_T.seg (f' := (170, [some (.ref 62), some (.int y1), some (.int y2), some (.int y3), some (.int (y4 / 3)), some (.int y5), none], [(.int (o1188.2 85 0)), (.int y5), (.ref 102)])) (h' := (107, o1188.2, J, mm_rf rv sp rr w nw)) 2 rfl ?_
      by_cases h1189 : y5 < 0 ∨ 6 ≤ y5.toNatClampNeg
      · rw [if_pos h1189] at e; cases e
      rw [if_neg h1189] at e
      refine mm_T.guard (y := ((171, [some (.ref 62), some (.int y1), some (.int y2), some (.int y3), some (.int (y4 / 3)), some (.int y5), none], []), (107, (mm_up o1188.2 102 y5.toNatClampNeg (o1188.2 85 0)), J, mm_rf rv sp rr w nw))) rfl h1189 ?_
      refine mm_T.seg (f' := (175, [some (.ref 62), some (.int y1), some (.int y2), some (.int y3), some (.int (y4 / 3)), some (.int y5), none], [(.ref 103)])) (h' := (107, (mm_up o1188.2 102 y5.toNatClampNeg (o1188.2 85 0)), J, mm_rf rv sp rr w nw)) 2 rfl ?_
      refine mm_T.seg (f' := (181, [some (.ref 62), some (.int y1), some (.int y2), some (.int y3), some (.int (y4 / 3)), some (.int y5), none], [(.ref 85), (.int y5), (.ref 103)])) (h' := (107, (mm_up o1188.2 102 y5.toNatClampNeg (o1188.2 85 0)), J, mm_rf rv sp rr w nw)) 3 rfl ?_
      refine mm_T.seg (f' := (184, [some (.ref 62), some (.int y1), some (.int y2), some (.int y3), some (.int (y4 / 3)), some (.int y5), none], [(.int (o1188.2 85 8)), (.int y5), (.ref 103)])) (h' := (107, (mm_up o1188.2 102 y5.toNatClampNeg (o1188.2 85 0)), J, mm_rf rv sp rr w nw)) 2 rfl ?_
      by_cases h1190 : y5 < 0 ∨ 6 ≤ y5.toNatClampNeg
      · rw [if_pos h1190] at e; cases e
      rw [if_neg h1190] at e
      refine mm_T.guard (y := ((185, [some (.ref 62), some (.int y1), some (.int y2), some (.int y3), some (.int (y4 / 3)), some (.int y5), none], []), (107, (mm_up (mm_up o1188.2 102 y5.toNatClampNeg (o1188.2 85 0)) 103 y5.toNatClampNeg (o1188.2 85 8)), J, mm_rf rv sp rr w nw))) rfl h1190 ?_
      refine mm_T.seg (f' := (115, [some (.ref 62), some (.int y1), some (.int y2), some (.int y3), some (.int (y4 / 3)), some (.int (y5 + 1)), none], [])) (h' := (107, (mm_up (mm_up o1188.2 102 y5.toNatClampNeg (o1188.2 85 0)) 103 y5.toNatClampNeg (o1188.2 85 8)), J, mm_rf rv sp rr w nw)) 2 rfl ?_
      refine mm_T.mask [true, true, true, true, true, true, false] ?_
      exact ih y1 y2 y3 (y4 / 3) (y5 + 1) (mm_up (mm_up o1188.2 102 y5.toNatClampNeg (o1188.2 85 0)) 103 y5.toNatClampNeg (o1188.2 85 8)) J rv sp rr w nw out e k
    · rw [if_neg h1185] at e
      cases e
      refine mm_T.mask [true, true, true, true, false, false, false] ?_
      exact k
set_option maxRecDepth 100000 in
set_option maxHeartbeats 4000000 in
theorem tlX12_layFits_L197 (d : Nat) (Q : Option Value → mm_H → Prop) : ∀ (n : Nat) (y1 : Int32) (y2 : Int32) (y3 : Int32) (y5 : Int32) (y6 : Int32) (I : Nat → Nat → Int32) (J : Nat → Nat → Int64) (rv sp rr w nw : Nat), ∀ (out : Int32), fX12_layFits_L197 n y1 y2 y3 y5 y6 I = some out → mm_T none (d + 4) 323 (272, [some (.ref 62), some (.int y1), some (.int y2), some (.int y3), none, some (.int out), none], []) (107, I, J, mm_rf rv sp rr w nw) Q → mm_T none (d + 4) 323 (197, [some (.ref 62), some (.int y1), some (.int y2), some (.int y3), none, some (.int y5), some (.int y6)], []) (107, I, J, mm_rf rv sp rr w nw) Q := by
  intro n
  induction n with
  | zero =>
    intro y1 y2 y3 y5 y6 I J rv sp rr w nw out e k
    rw [fX12_layFits_L197] at e; cases e
  | succ n ih =>
    intro y1 y2 y3 y5 y6 I J rv sp rr w nw out e k
    rw [fX12_layFits_L197] at e
    refine mm_T.seg (f' := (203, [some (.ref 62), some (.int y1), some (.int y2), some (.int y3), none, some (.int y5), some (.int y6)], [(.int (I 62 75)), (.int y6)])) (h' := (107, I, J, mm_rf rv sp rr w nw)) 3 rfl ?_
    refine mm_T.br (c := y6 < (I 62 75)) (a := ((206, [some (.ref 62), some (.int y1), some (.int y2), some (.int y3), none, some (.int y5), some (.int y6)], []), (107, I, J, mm_rf rv sp rr w nw))) (b := ((272, [some (.ref 62), some (.int y1), some (.int y2), some (.int y3), none, some (.int y5), some (.int y6)], []), (107, I, J, mm_rf rv sp rr w nw))) rfl (fun h1206 => ?_) (fun h1206 => ?_)
    · rw [if_pos h1206] at e
      refine mm_T.seg (f' := (208, [some (.ref 62), some (.int y1), some (.int y2), some (.int y3), none, some (.int y5), some (.int y6)], [(.int y5)])) (h' := (107, I, J, mm_rf rv sp rr w nw)) 1 rfl ?_
      refine mm_T.br (c := y5 = 0) (a := ((272, [some (.ref 62), some (.int y1), some (.int y2), some (.int y3), none, some (.int y5), some (.int y6)], []), (107, I, J, mm_rf rv sp rr w nw))) (b := ((211, [some (.ref 62), some (.int y1), some (.int y2), some (.int y3), none, some (.int y5), some (.int y6)], []), (107, I, J, mm_rf rv sp rr w nw))) rfl (fun h1207 => ?_) (fun h1207 => ?_)
      · rw [if_pos h1207] at e
        cases e
        refine mm_T.mask [true, true, true, true, false, true, false] ?_
        exact k
      · rw [if_neg h1207] at e
        refine mm_T.seg (f' := (215, [some (.ref 62), some (.int y1), some (.int y2), some (.int y3), none, some (.int y5), some (.int y6)], [(.ref 99)])) (h' := (107, I, J, mm_rf rv sp rr w nw)) 2 rfl ?_
        refine mm_T.seg (f' := (217, [some (.ref 62), some (.int y1), some (.int y2), some (.int y3), none, some (.int y5), some (.int y6)], [(.int y6), (.ref 99)])) (h' := (107, I, J, mm_rf rv sp rr w nw)) 1 rfl ?_
        by_cases h1208 : y6 < 0 ∨ 30 ≤ y6.toNatClampNeg
        · rw [if_pos h1208] at e; cases e
        rw [if_neg h1208] at e
        refine mm_T.guard (y := ((218, [some (.ref 62), some (.int y1), some (.int y2), some (.int y3), none, some (.int y5), some (.int y6)], [(.int (I 99 y6.toNatClampNeg))]), (107, I, J, mm_rf rv sp rr w nw))) rfl h1208 ?_
        refine mm_T.seg (f' := (219, [some (.ref 62), some (.int y1), some (.int y2), some (.int y3), none, some (.int y5), some (.int y6)], [(.int y1), (.int (I 99 y6.toNatClampNeg))])) (h' := (107, I, J, mm_rf rv sp rr w nw)) 1 rfl ?_
        refine mm_T.br (c := y1 < (I 99 y6.toNatClampNeg)) (a := ((259, [some (.ref 62), some (.int y1), some (.int y2), some (.int y3), none, some (.int y5), some (.int y6)], []), (107, I, J, mm_rf rv sp rr w nw))) (b := ((222, [some (.ref 62), some (.int y1), some (.int y2), some (.int y3), none, some (.int y5), some (.int y6)], []), (107, I, J, mm_rf rv sp rr w nw))) rfl (fun h1209 => ?_) (fun h1209 => ?_)
        · rw [if_pos h1209] at e
          refine mm_T.seg (f' := (197, [some (.ref 62), some (.int y1), some (.int y2), some (.int y3), none, some (.int 1), some (.int (y6 + 1))], [])) (h' := (107, I, J, mm_rf rv sp rr w nw)) 5 rfl ?_
          refine mm_T.mask [true, true, true, true, false, true, true] ?_
          exact ih y1 y2 y3 1 (y6 + 1) I J rv sp rr w nw out e k
        · rw [if_neg h1209] at e
          refine mm_T.seg (f' := (226, [some (.ref 62), some (.int y1), some (.int y2), some (.int y3), none, some (.int y5), some (.int y6)], [(.ref 100)])) (h' := (107, I, J, mm_rf rv sp rr w nw)) 2 rfl ?_
          refine mm_T.seg (f' := (228, [some (.ref 62), some (.int y1), some (.int y2), some (.int y3), none, some (.int y5), some (.int y6)], [(.int y6), (.ref 100)])) (h' := (107, I, J, mm_rf rv sp rr w nw)) 1 rfl ?_
          by_cases h1210 : y6 < 0 ∨ 30 ≤ y6.toNatClampNeg
          · rw [if_pos h1210] at e; cases e
          rw [if_neg h1210] at e
          refine mm_T.guard (y := ((229, [some (.ref 62), some (.int y1), some (.int y2), some (.int y3), none, some (.int y5), some (.int y6)], [(.int (I 100 y6.toNatClampNeg))]), (107, I, J, mm_rf rv sp rr w nw))) rfl h1210 ?_
          refine mm_T.br (c := (I 100 y6.toNatClampNeg) < 0) (a := ((243, [some (.ref 62), some (.int y1), some (.int y2), some (.int y3), none, some (.int y5), some (.int y6)], []), (107, I, J, mm_rf rv sp rr w nw))) (b := ((232, [some (.ref 62), some (.int y1), some (.int y2), some (.int y3), none, some (.int y5), some (.int y6)], []), (107, I, J, mm_rf rv sp rr w nw))) rfl (fun h1211 => ?_) (fun h1211 => ?_)
          · rw [if_pos h1211] at e
            refine mm_T.seg (f' := (246, [some (.ref 62), some (.int y1), some (.int y2), some (.int y3), none, some (.int y5), some (.int y6)], [(.int y6), (.ref 62)])) (h' := (107, I, J, mm_rf rv sp rr w nw)) 2 rfl ?_
            obtain ⟨o1212, eo1212, e⟩ := mm_bind e
            refine mm_T.call (t := 322) (as := [(.ref 62), (.int y6)]) (f' := (249, [some (.ref 62), some (.int y1), some (.int y2), some (.int y3), none, some (.int y5), some (.int y6)], [])) rfl (tX12_isSo (d + 3) y6 I J rv sp rr w nw o1212 eo1212) (fun v h hq => ?_)
            obtain ⟨rfl, rfl⟩ := hq
            refine mm_T.seg (f' := (253, [some (.ref 62), some (.int y1), some (.int y2), some (.int y3), none, some (.int y5), some (.int y6)], [(.ref 101), (.int o1212)])) (h' := (107, I, J, mm_rf rv sp rr w nw)) 2 rfl ?_
            refine mm_T.seg (f' := (255, [some (.ref 62), some (.int y1), some (.int y2), some (.int y3), none, some (.int y5), some (.int y6)], [(.int y6), (.ref 101), (.int o1212)])) (h' := (107, I, J, mm_rf rv sp rr w nw)) 1 rfl ?_
            by_cases h1213 : y6 < 0 ∨ 30 ≤ y6.toNatClampNeg
            · rw [if_pos h1213] at e; cases e
            rw [if_neg h1213] at e
            refine mm_T.guard (y := ((256, [some (.ref 62), some (.int y1), some (.int y2), some (.int y3), none, some (.int y5), some (.int y6)], [(.int (I 101 y6.toNatClampNeg)), (.int o1212)]), (107, I, J, mm_rf rv sp rr w nw))) rfl h1213 ?_
            refine mm_T.br (c := o1212 = (I 101 y6.toNatClampNeg)) (a := ((259, [some (.ref 62), some (.int y1), some (.int y2), some (.int y3), none, some (.int y5), some (.int y6)], []), (107, I, J, mm_rf rv sp rr w nw))) (b := ((263, [some (.ref 62), some (.int y1), some (.int y2), some (.int y3), none, some (.int y5), some (.int y6)], []), (107, I, J, mm_rf rv sp rr w nw))) rfl (fun h1214 => ?_) (fun h1214 => ?_)
            · rw [if_pos h1214] at e
              refine mm_T.seg (f' := (197, [some (.ref 62), some (.int y1), some (.int y2), some (.int y3), none, some (.int 1), some (.int (y6 + 1))], [])) (h' := (107, I, J, mm_rf rv sp rr w nw)) 5 rfl ?_
              refine mm_T.mask [true, true, true, true, false, true, true] ?_
              exact ih y1 y2 y3 1 (y6 + 1) I J rv sp rr w nw out e k
            · rw [if_neg h1214] at e
              refine mm_T.seg (f' := (197, [some (.ref 62), some (.int y1), some (.int y2), some (.int y3), none, some (.int 0), some (.int (y6 + 1))], [])) (h' := (107, I, J, mm_rf rv sp rr w nw)) 4 rfl ?_
              refine mm_T.mask [true, true, true, true, false, true, true] ?_
              exact ih y1 y2 y3 0 (y6 + 1) I J rv sp rr w nw out e k
          · rw [if_neg h1211] at e
            refine mm_T.seg (f' := (236, [some (.ref 62), some (.int y1), some (.int y2), some (.int y3), none, some (.int y5), some (.int y6)], [(.ref 100)])) (h' := (107, I, J, mm_rf rv sp rr w nw)) 2 rfl ?_
            refine mm_T.seg (f' := (238, [some (.ref 62), some (.int y1), some (.int y2), some (.int y3), none, some (.int y5), some (.int y6)], [(.int y6), (.ref 100)])) (h' := (107, I, J, mm_rf rv sp rr w nw)) 1 rfl ?_
            by_cases h1215 : y6 < 0 ∨ 30 ≤ y6.toNatClampNeg
            · rw [if_pos h1215] at e; cases e
            rw [if_neg h1215] at e
            refine mm_T.guard (y := ((239, [some (.ref 62), some (.int y1), some (.int y2), some (.int y3), none, some (.int y5), some (.int y6)], [(.int (I 100 y6.toNatClampNeg))]), (107, I, J, mm_rf rv sp rr w nw))) rfl h1215 ?_
            refine mm_T.seg (f' := (240, [some (.ref 62), some (.int y1), some (.int y2), some (.int y3), none, some (.int y5), some (.int y6)], [(.int y1), (.int (I 100 y6.toNatClampNeg))])) (h' := (107, I, J, mm_rf rv sp rr w nw)) 1 rfl ?_
            refine mm_T.br (c := y1 < (I 100 y6.toNatClampNeg)) (a := ((243, [some (.ref 62), some (.int y1), some (.int y2), some (.int y3), none, some (.int y5), some (.int y6)], []), (107, I, J, mm_rf rv sp rr w nw))) (b := ((259, [some (.ref 62), some (.int y1), some (.int y2), some (.int y3), none, some (.int y5), some (.int y6)], []), (107, I, J, mm_rf rv sp rr w nw))) rfl (fun h1216 => ?_) (fun h1216 => ?_)
            · rw [if_pos h1216] at e
              refine mm_T.seg (f' := (246, [some (.ref 62), some (.int y1), some (.int y2), some (.int y3), none, some (.int y5), some (.int y6)], [(.int y6), (.ref 62)])) (h' := (107, I, J, mm_rf rv sp rr w nw)) 2 rfl ?_
              obtain ⟨o1217, eo1217, e⟩ := mm_bind e
              refine mm_T.call (t := 322) (as := [(.ref 62), (.int y6)]) (f' := (249, [some (.ref 62), some (.int y1), some (.int y2), some (.int y3), none, some (.int y5), some (.int y6)], [])) rfl (tX12_isSo (d + 3) y6 I J rv sp rr w nw o1217 eo1217) (fun v h hq => ?_)
              obtain ⟨rfl, rfl⟩ := hq
              refine mm_T.seg (f' := (253, [some (.ref 62), some (.int y1), some (.int y2), some (.int y3), none, some (.int y5), some (.int y6)], [(.ref 101), (.int o1217)])) (h' := (107, I, J, mm_rf rv sp rr w nw)) 2 rfl ?_
              refine mm_T.seg (f' := (255, [some (.ref 62), some (.int y1), some (.int y2), some (.int y3), none, some (.int y5), some (.int y6)], [(.int y6), (.ref 101), (.int o1217)])) (h' := (107, I, J, mm_rf rv sp rr w nw)) 1 rfl ?_
              by_cases h1218 : y6 < 0 ∨ 30 ≤ y6.toNatClampNeg
              · rw [if_pos h1218] at e; cases e
              rw [if_neg h1218] at e
              refine mm_T.guard (y := ((256, [some (.ref 62), some (.int y1), some (.int y2), some (.int y3), none, some (.int y5), some (.int y6)], [(.int (I 101 y6.toNatClampNeg)), (.int o1217)]), (107, I, J, mm_rf rv sp rr w nw))) rfl h1218 ?_
              refine mm_T.br (c := o1217 = (I 101 y6.toNatClampNeg)) (a := ((259, [some (.ref 62), some (.int y1), some (.int y2), some (.int y3), none, some (.int y5), some (.int y6)], []), (107, I, J, mm_rf rv sp rr w nw))) (b := ((263, [some (.ref 62), some (.int y1), some (.int y2), some (.int y3), none, some (.int y5), some (.int y6)], []), (107, I, J, mm_rf rv sp rr w nw))) rfl (fun h1219 => ?_) (fun h1219 => ?_)
              · rw [if_pos h1219] at e
                refine mm_T.seg (f' := (197, [some (.ref 62), some (.int y1), some (.int y2), some (.int y3), none, some (.int 1), some (.int (y6 + 1))], [])) (h' := (107, I, J, mm_rf rv sp rr w nw)) 5 rfl ?_
                refine mm_T.mask [true, true, true, true, false, true, true] ?_
                exact ih y1 y2 y3 1 (y6 + 1) I J rv sp rr w nw out e k
              · rw [if_neg h1219] at e
                refine mm_T.seg (f' := (197, [some (.ref 62), some (.int y1), some (.int y2), some (.int y3), none, some (.int 0), some (.int (y6 + 1))], [])) (h' := (107, I, J, mm_rf rv sp rr w nw)) 4 rfl ?_
                refine mm_T.mask [true, true, true, true, false, true, true] ?_
                exact ih y1 y2 y3 0 (y6 + 1) I J rv sp rr w nw out e k
            · rw [if_neg h1216] at e
              refine mm_T.seg (f' := (197, [some (.ref 62), some (.int y1), some (.int y2), some (.int y3), none, some (.int 1), some (.int (y6 + 1))], [])) (h' := (107, I, J, mm_rf rv sp rr w nw)) 5 rfl ?_
              refine mm_T.mask [true, true, true, true, false, true, true] ?_
              exact ih y1 y2 y3 1 (y6 + 1) I J rv sp rr w nw out e k
    · rw [if_neg h1206] at e
      cases e
      refine mm_T.mask [true, true, true, true, false, true, false] ?_
      exact k
set_option maxRecDepth 100000 in
set_option maxHeartbeats 4000000 in
theorem tlX12_layFits_L286 (d : Nat) (Q : Option Value → mm_H → Prop) : ∀ (n : Nat) (y1 : Int32) (y2 : Int32) (y3 : Int32) (y6 : Int32) (I : Nat → Nat → Int32) (J : Nat → Nat → Int64) (rv sp rr w nw : Nat), ∀ (out : (Nat → Nat → Int32)), fX12_layFits_L286 n y1 y2 y3 y6 I = some out → mm_T none (d + 4) 323 (324, [some (.ref 62), some (.int y1), some (.int y2), some (.int y3), none, none, none], []) (107, out, J, mm_rf rv sp rr w nw) Q → mm_T none (d + 4) 323 (286, [some (.ref 62), some (.int y1), some (.int y2), some (.int y3), none, none, some (.int y6)], []) (107, I, J, mm_rf rv sp rr w nw) Q := by
  intro n
  induction n with
  | zero =>
    intro y1 y2 y3 y6 I J rv sp rr w nw out e k
    rw [fX12_layFits_L286] at e; cases e
  | succ n ih =>
    intro y1 y2 y3 y6 I J rv sp rr w nw out e k
    rw [fX12_layFits_L286] at e
    refine mm_T.seg (f' := (292, [some (.ref 62), some (.int y1), some (.int y2), some (.int y3), none, none, some (.int y6)], [(.int (I 62 47)), (.int y6)])) (h' := (107, I, J, mm_rf rv sp rr w nw)) 3 rfl ?_
    refine mm_T.br (c := y6 < (I 62 47)) (a := ((295, [some (.ref 62), some (.int y1), some (.int y2), some (.int y3), none, none, some (.int y6)], []), (107, I, J, mm_rf rv sp rr w nw))) (b := ((324, [some (.ref 62), some (.int y1), some (.int y2), some (.int y3), none, none, some (.int y6)], []), (107, I, J, mm_rf rv sp rr w nw))) rfl (fun h1222 => ?_) (fun h1222 => ?_)
    · rw [if_pos h1222] at e
      refine mm_T.seg (f' := (299, [some (.ref 62), some (.int y1), some (.int y2), some (.int y3), none, none, some (.int y6)], [(.ref 104)])) (h' := (107, I, J, mm_rf rv sp rr w nw)) 2 rfl ?_
      refine mm_T.seg (f' := (307, [some (.ref 62), some (.int y1), some (.int y2), some (.int y3), none, none, some (.int y6)], [(.ref 87), (.int (3 * y6)), (.ref 104)])) (h' := (107, I, J, mm_rf rv sp rr w nw)) 5 rfl ?_
      refine mm_T.seg (f' := (309, [some (.ref 62), some (.int y1), some (.int y2), some (.int y3), none, none, some (.int y6)], [(.int y6), (.ref 87), (.int (3 * y6)), (.ref 104)])) (h' := (107, I, J, mm_rf rv sp rr w nw)) 1 rfl ?_
      by_cases h1223 : y6 < 0 ∨ 6 ≤ y6.toNatClampNeg
      · rw [if_pos h1223] at e; cases e
      rw [if_neg h1223] at e
      refine mm_T.guard (y := ((310, [some (.ref 62), some (.int y1), some (.int y2), some (.int y3), none, none, some (.int y6)], [(.int (I 87 y6.toNatClampNeg)), (.int (3 * y6)), (.ref 104)]), (107, I, J, mm_rf rv sp rr w nw))) rfl h1223 ?_
      refine mm_T.seg (f' := (314, [some (.ref 62), some (.int y1), some (.int y2), some (.int y3), none, none, some (.int y6)], [(.int (((3 * y6) + (I 87 y6.toNatClampNeg)) + 1)), (.ref 104), (.int (((3 * y6) + (I 87 y6.toNatClampNeg)) + 1)), (.ref 104)])) (h' := (107, I, J, mm_rf rv sp rr w nw)) 4 rfl ?_
      by_cases h1224 : (((3 * y6) + (I 87 y6.toNatClampNeg)) + 1) < 0 ∨ 18 ≤ (((3 * y6) + (I 87 y6.toNatClampNeg)) + 1).toNatClampNeg
      · rw [if_pos h1224] at e; cases e
      rw [if_neg h1224] at e
      refine mm_T.guard (c := (((3 * y6) + (I 87 y6.toNatClampNeg)) + 1) < 0 ∨ 18 ≤ (((3 * y6) + (I 87 y6.toNatClampNeg)) + 1).toNatClampNeg) (y := ((315, [some (.ref 62), some (.int y1), some (.int y2), some (.int y3), none, none, some (.int y6)], [(.int (I 104 (((3 * y6) + (I 87 y6.toNatClampNeg)) + 1).toNatClampNeg)), (.int (((3 * y6) + (I 87 y6.toNatClampNeg)) + 1)), (.ref 104)]), (107, I, J, mm_rf rv sp rr w nw))) (mm_gen (P := fun z => mm_stp none 323 (314, [some (.ref 62), some (.int y1), some (.int y2), some (.int y3), none, none, some (.int y6)], [(.int z), (.ref 104), (.int z), (.ref 104)]) (107, I, J, mm_rf rv sp rr w nw) = if z < 0 ∨ 18 ≤ z.toNatClampNeg then none else some (.inl ((315, [some (.ref 62), some (.int y1), some (.int y2), some (.int y3), none, none, some (.int y6)], [(.int (I 104 z.toNatClampNeg)), (.int z), (.ref 104)]), (107, I, J, mm_rf rv sp rr w nw)))) (((3 * y6) + (I 87 y6.toNatClampNeg)) + 1) (fun z => rfl)) h1224 ?_
      refine mm_T.seg (f' := (317, [some (.ref 62), some (.int y1), some (.int y2), some (.int y3), none, none, some (.int y6)], [(.int ((I 104 (((3 * y6) + (I 87 y6.toNatClampNeg)) + 1).toNatClampNeg) + 1)), (.int (((3 * y6) + (I 87 y6.toNatClampNeg)) + 1)), (.ref 104)])) (h' := (107, I, J, mm_rf rv sp rr w nw)) 2 rfl ?_
      by_cases h1225 : (((3 * y6) + (I 87 y6.toNatClampNeg)) + 1) < 0 ∨ 18 ≤ (((3 * y6) + (I 87 y6.toNatClampNeg)) + 1).toNatClampNeg
      · rw [if_pos h1225] at e; cases e
      rw [if_neg h1225] at e
      refine mm_T.guard (c := (((3 * y6) + (I 87 y6.toNatClampNeg)) + 1) < 0 ∨ 18 ≤ (((3 * y6) + (I 87 y6.toNatClampNeg)) + 1).toNatClampNeg) (y := ((318, [some (.ref 62), some (.int y1), some (.int y2), some (.int y3), none, none, some (.int y6)], []), (107, (mm_up I 104 (((3 * y6) + (I 87 y6.toNatClampNeg)) + 1).toNatClampNeg ((I 104 (((3 * y6) + (I 87 y6.toNatClampNeg)) + 1).toNatClampNeg) + 1)), J, mm_rf rv sp rr w nw))) (mm_gen (P := fun z => mm_stp none 323 (317, [some (.ref 62), some (.int y1), some (.int y2), some (.int y3), none, none, some (.int y6)], [(.int ((I 104 z.toNatClampNeg) + 1)), (.int z), (.ref 104)]) (107, I, J, mm_rf rv sp rr w nw) = if z < 0 ∨ 18 ≤ z.toNatClampNeg then none else some (.inl ((318, [some (.ref 62), some (.int y1), some (.int y2), some (.int y3), none, none, some (.int y6)], []), (107, (mm_up I 104 z.toNatClampNeg ((I 104 z.toNatClampNeg) + 1)), J, mm_rf rv sp rr w nw)))) (((3 * y6) + (I 87 y6.toNatClampNeg)) + 1) (fun z => rfl)) h1225 ?_
      refine mm_T.seg (f' := (286, [some (.ref 62), some (.int y1), some (.int y2), some (.int y3), none, none, some (.int (y6 + 1))], [])) (h' := (107, (mm_up I 104 (((3 * y6) + (I 87 y6.toNatClampNeg)) + 1).toNatClampNeg ((I 104 (((3 * y6) + (I 87 y6.toNatClampNeg)) + 1).toNatClampNeg) + 1)), J, mm_rf rv sp rr w nw)) 2 rfl ?_
      refine mm_T.mask [true, true, true, true, false, false, true] ?_
      exact ih y1 y2 y3 (y6 + 1) (mm_up I 104 (((3 * y6) + (I 87 y6.toNatClampNeg)) + 1).toNatClampNeg ((I 104 (((3 * y6) + (I 87 y6.toNatClampNeg)) + 1).toNatClampNeg) + 1)) J rv sp rr w nw out e k
    · rw [if_neg h1222] at e
      cases e
      refine mm_T.mask [true, true, true, true, false, false, false] ?_
      exact k
set_option maxRecDepth 100000 in
set_option maxHeartbeats 4000000 in
theorem tlX12_layFits_L25 (d : Nat) (Q : Option Value → mm_H → Prop) : ∀ (n : Nat) (y1 : Int32) (y2 : Int32) (y3 : Int32) (I : Nat → Nat → Int32) (J : Nat → Nat → Int64) (rv sp rr w nw : Nat), ∀ (out : Int32 × (Nat → Nat → Int32)), fX12_layFits_L25 n y1 y2 y3 I = some out → mm_T none (d + 4) 323 (330, [none, none, some (.int out.1), none, none, none, none], []) (107, out.2, J, mm_rf rv sp rr w nw) Q → mm_T none (d + 4) 323 (25, [some (.ref 62), some (.int y1), some (.int y2), some (.int y3), none, none, none], []) (107, I, J, mm_rf rv sp rr w nw) Q := by
  intro n
  induction n with
  | zero =>
    intro y1 y2 y3 I J rv sp rr w nw out e k
    rw [fX12_layFits_L25] at e; cases e
  | succ n ih =>
    intro y1 y2 y3 I J rv sp rr w nw out e k
    rw [fX12_layFits_L25] at e
    refine mm_T.seg (f' := (31, [some (.ref 62), some (.int y1), some (.int y2), some (.int y3), none, none, none], [(.int (I 62 47)), (.int 3), (.int y3)])) (h' := (107, I, J, mm_rf rv sp rr w nw)) 4 rfl ?_
    obtain ⟨o1176, eo1176, e⟩ := mm_bind e
    refine mm_T.call (t := 277) (as := [(.int 3), (.int (I 62 47))]) (f' := (34, [some (.ref 62), some (.int y1), some (.int y2), some (.int y3), none, none, none], [(.int y3)])) rfl (tX12_power (d + 3) n 3 (I 62 47) I J rv sp rr w nw o1176 eo1176) (fun v h hq => ?_)
    obtain ⟨rfl, rfl⟩ := hq
    refine mm_T.br (c := y3 < o1176) (a := ((37, [some (.ref 62), some (.int y1), some (.int y2), some (.int y3), none, none, none], []), (107, I, J, mm_rf rv sp rr w nw))) (b := ((330, [some (.ref 62), some (.int y1), some (.int y2), some (.int y3), none, none, none], []), (107, I, J, mm_rf rv sp rr w nw))) rfl (fun h1177 => ?_) (fun h1177 => ?_)
    · rw [if_pos h1177] at e
      refine mm_T.seg (f' := (41, [some (.ref 62), some (.int y1), some (.int y2), some (.int y3), none, none, none], [(.int (I 62 48))])) (h' := (107, I, J, mm_rf rv sp rr w nw)) 2 rfl ?_
      refine mm_T.br (c := 0 < (I 62 48)) (a := ((44, [some (.ref 62), some (.int y1), some (.int y2), some (.int y3), none, none, none], []), (107, I, J, mm_rf rv sp rr w nw))) (b := ((330, [some (.ref 62), some (.int y1), some (.int y2), some (.int y3), none, none, none], []), (107, I, J, mm_rf rv sp rr w nw))) rfl (fun h1178 => ?_) (fun h1178 => ?_)
      · rw [if_pos h1178] at e
        refine mm_T.seg (f' := (47, [some (.ref 62), some (.int y1), some (.int y2), some (.int y3), some (.int 0), none, none], [])) (h' := (107, I, J, mm_rf rv sp rr w nw)) 2 rfl ?_
        refine mm_T.mask [true, true, true, true, true, false, false] ?_
        obtain ⟨o1181, eo1181, e⟩ := mm_bind e
        refine tlX12_layFits_L47 d _ n y1 y2 y3 0 I J rv sp rr w nw o1181 eo1181 ?_
        refine mm_T.seg (f' := (71, [some (.ref 62), some (.int y1), some (.int y2), some (.int y3), some (.int 0), none, none], [])) (h' := (107, o1181, J, mm_rf rv sp rr w nw)) 2 rfl ?_
        refine mm_T.mask [true, true, true, true, true, false, false] ?_
        obtain ⟨o1184, eo1184, e⟩ := mm_bind e
        refine tlX12_layFits_L71 d _ n y1 y2 y3 0 o1181 J rv sp rr w nw o1184 eo1184 ?_
        refine mm_T.seg (f' := (101, [some (.ref 62), some (.int y1), some (.int y2), some (.int y3), none, none, none], [(.ref 85)])) (h' := (107, o1184, J, mm_rf rv sp rr w nw)) 2 rfl ?_
        refine mm_T.seg (f' := (106, [some (.ref 62), some (.int y1), some (.int y2), some (.int y3), none, none, none], [(.ref 81), (.int 0), (.ref 85)])) (h' := (107, o1184, J, mm_rf rv sp rr w nw)) 3 rfl ?_
        refine mm_T.seg (f' := (115, [some (.ref 62), some (.int y1), some (.int y2), some (.int y3), some (.int y3), some (.int 0), none], [])) (h' := (107, (mm_up o1184 85 0 (o1184 81 0)), J, mm_rf rv sp rr w nw)) 7 rfl ?_
        refine mm_T.mask [true, true, true, true, true, true, false] ?_
        obtain ⟨o1191, eo1191, e⟩ := mm_bind e
        refine tlX12_layFits_L115 d _ n y1 y2 y3 y3 0 (mm_up o1184 85 0 (o1184 81 0)) J rv sp rr w nw o1191 eo1191 ?_
        refine mm_T.seg (f' := (197, [some (.ref 62), some (.int y1), some (.int y2), some (.int y3), none, some (.int 1), some (.int 0)], [])) (h' := (107, o1191, J, mm_rf rv sp rr w nw)) 4 rfl ?_
        refine mm_T.mask [true, true, true, true, false, true, true] ?_
        obtain ⟨o1220, eo1220, e⟩ := mm_bind e
        refine tlX12_layFits_L197 d _ n y1 y2 y3 1 0 o1191 J rv sp rr w nw o1220 eo1220 ?_
        refine mm_T.seg (f' := (274, [some (.ref 62), some (.int y1), some (.int y2), some (.int y3), none, some (.int o1220), none], [(.int o1220)])) (h' := (107, o1191, J, mm_rf rv sp rr w nw)) 1 rfl ?_
        refine mm_T.br (c := o1220 = 0) (a := ((277, [some (.ref 62), some (.int y1), some (.int y2), some (.int y3), none, some (.int o1220), none], []), (107, o1191, J, mm_rf rv sp rr w nw))) (b := ((280, [some (.ref 62), some (.int y1), some (.int y2), some (.int y3), none, some (.int o1220), none], []), (107, o1191, J, mm_rf rv sp rr w nw))) rfl (fun h1221 => ?_) (fun h1221 => ?_)
        · rw [if_pos h1221] at e
          refine mm_T.seg (f' := (25, [some (.ref 62), some (.int y1), some (.int y2), some (.int (y3 + 1)), none, some (.int o1220), none], [])) (h' := (107, o1191, J, mm_rf rv sp rr w nw)) 3 rfl ?_
          refine mm_T.mask [true, true, true, true, false, false, false] ?_
          exact ih y1 y2 (y3 + 1) o1191 J rv sp rr w nw out e k
        · rw [if_neg h1221] at e
          refine mm_T.seg (f' := (286, [some (.ref 62), some (.int y1), some (.int (y2 + 1)), some (.int y3), none, some (.int o1220), some (.int 0)], [])) (h' := (107, o1191, J, mm_rf rv sp rr w nw)) 3 rfl ?_
          refine mm_T.mask [true, true, true, true, false, false, true] ?_
          obtain ⟨o1226, eo1226, e⟩ := mm_bind e
          refine tlX12_layFits_L286 d _ n y1 (y2 + 1) y3 0 o1191 J rv sp rr w nw o1226 eo1226 ?_
          refine mm_T.seg (f' := (25, [some (.ref 62), some (.int y1), some (.int (y2 + 1)), some (.int (y3 + 1)), none, none, none], [])) (h' := (107, o1226, J, mm_rf rv sp rr w nw)) 2 rfl ?_
          refine mm_T.mask [true, true, true, true, false, false, false] ?_
          exact ih y1 (y2 + 1) (y3 + 1) o1226 J rv sp rr w nw out e k
      · rw [if_neg h1178] at e
        cases e
        refine mm_T.mask [false, false, true, false, false, false, false] ?_
        exact k
    · rw [if_neg h1177] at e
      cases e
      refine mm_T.mask [false, false, true, false, false, false, false] ?_
      exact k
set_option maxRecDepth 100000 in
set_option maxHeartbeats 4000000 in
theorem tX12_layFits (d n : Nat) (x1 : Int32) (I : Nat → Nat → Int32) (J : Nat → Nat → Int64) (rv sp rr w nw : Nat) (out : Int32 × (Nat → Nat → Int32)) (e : fX12_layFits n x1 I = some out) : mm_T none (d + 4) 323 (mm_ent 323 [(.ref 62), (.int x1)]) (107, I, J, mm_rf rv sp rr w nw) (fun v h => v = some (.int out.1) ∧ h = (107, out.2, J, mm_rf rv sp rr w nw)) := by
  unfold fX12_layFits at e
  refine mm_T.seg (f' := (4, [some (.ref 62), some (.int x1), some (.int 0), some (.int 0), none, none, none], [])) (h' := (107, I, J, mm_rf rv sp rr w nw)) 4 rfl ?_
  refine mm_T.mask [true, true, true, true, false, false, false] ?_
  obtain ⟨o1175, eo1175, e⟩ := mm_bind e
  refine tlX12_layFits_L4 d _ n x1 0 0 I J rv sp rr w nw o1175 eo1175 ?_
  refine mm_T.seg (f' := (25, [some (.ref 62), some (.int x1), some (.int 0), some (.int 0), none, none, none], [])) (h' := (107, o1175, J, mm_rf rv sp rr w nw)) 2 rfl ?_
  refine mm_T.mask [true, true, true, true, false, false, false] ?_
  obtain ⟨o1227, eo1227, e⟩ := mm_bind e
  refine tlX12_layFits_L25 d _ n x1 0 0 o1175 J rv sp rr w nw o1227 eo1227 ?_
  refine mm_T.seg (f' := (331, [none, none, some (.int o1227.1), none, none, none, none], [(.int o1227.1)])) (h' := (107, o1227.2, J, mm_rf rv sp rr w nw)) 1 rfl ?_
  cases e
  exact mm_T.ret rfl ⟨rfl, rfl⟩
set_option maxRecDepth 100000 in
set_option maxHeartbeats 4000000 in
theorem tX12_fits (d n : Nat) (x1 : Int32) (I : Nat → Nat → Int32) (J : Nat → Nat → Int64) (rv sp rr w nw : Nat) (out : Int32 × (Nat → Nat → Int32)) (e : fX12_fits n x1 I = some out) : mm_T none (d + 5) 324 (mm_ent 324 [(.ref 62), (.int x1)]) (107, I, J, mm_rf rv sp rr w nw) (fun v h => v = some (.int out.1) ∧ h = (107, out.2, J, mm_rf rv sp rr w nw)) := by
  unfold fX12_fits at e
  refine mm_T.seg (f' := (2, [some (.ref 62), some (.int x1)], [(.int x1), (.ref 62)])) (h' := (107, I, J, mm_rf rv sp rr w nw)) 2 rfl ?_
  obtain ⟨o1228, eo1228, e⟩ := mm_bind e
  refine mm_T.call (t := 323) (as := [(.ref 62), (.int x1)]) (f' := (5, [some (.ref 62), some (.int x1)], [])) rfl (tX12_layFits (d + 0) n x1 I J rv sp rr w nw o1228 eo1228) (fun v h hq => ?_)
  obtain ⟨rfl, rfl⟩ := hq
  cases e
  exact mm_T.ret rfl ⟨rfl, rfl⟩
set_option maxRecDepth 100000 in
set_option maxHeartbeats 4000000 in
theorem tlX12_sure_L35 (d : Nat) (Q : Option Value → mm_H → Prop) : ∀ (n : Nat) (y1 : Int32) (y3 : Int32) (y4 : Int32) (y5 : Int32) (I : Nat → Nat → Int32) (J : Nat → Nat → Int64) (rv sp rr w nw : Nat), ∀ (out : Int32), fX12_sure_L35 n y1 y3 y4 y5 I = some out → mm_T none (d + 5) 325 (70, [none, none, none, none, some (.int out), none], []) (107, I, J, mm_rf rv sp rr w nw) Q → mm_T none (d + 5) 325 (35, [some (.ref 62), some (.int y1), none, some (.int y3), some (.int y4), some (.int y5)], []) (107, I, J, mm_rf rv sp rr w nw) Q := by
  intro n
  induction n with
  | zero =>
    intro y1 y3 y4 y5 I J rv sp rr w nw out e k
    rw [fX12_sure_L35] at e; cases e
  | succ n ih =>
    intro y1 y3 y4 y5 I J rv sp rr w nw out e k
    rw [fX12_sure_L35] at e
    refine mm_T.seg (f' := (38, [some (.ref 62), some (.int y1), none, some (.int y3), some (.int y4), some (.int y5)], [(.int 1), (.int y5)])) (h' := (107, I, J, mm_rf rv sp rr w nw)) 2 rfl ?_
    refine mm_T.br (c := 1 < y5) (a := ((70, [some (.ref 62), some (.int y1), none, some (.int y3), some (.int y4), some (.int y5)], []), (107, I, J, mm_rf rv sp rr w nw))) (b := ((41, [some (.ref 62), some (.int y1), none, some (.int y3), some (.int y4), some (.int y5)], []), (107, I, J, mm_rf rv sp rr w nw))) rfl (fun h1235 => ?_) (fun h1235 => ?_)
    · rw [if_pos h1235] at e
      cases e
      refine mm_T.mask [false, false, false, false, true, false] ?_
      exact k
    · rw [if_neg h1235] at e
      refine mm_T.seg (f' := (45, [some (.ref 62), some (.int y1), none, some (.int y3), some (.int y4), some (.int y5)], [(.ref 104)])) (h' := (107, I, J, mm_rf rv sp rr w nw)) 2 rfl ?_
      refine mm_T.seg (f' := (55, [some (.ref 62), some (.int y1), none, some (.int y3), some (.int y4), some (.int y5)], [(.int (((3 * (y1 - 1)) + y5) + 1)), (.ref 104)])) (h' := (107, I, J, mm_rf rv sp rr w nw)) 9 rfl ?_
      by_cases h1236 : (((3 * (y1 - 1)) + y5) + 1) < 0 ∨ 18 ≤ (((3 * (y1 - 1)) + y5) + 1).toNatClampNeg
      · rw [if_pos h1236] at e; cases e
      rw [if_neg h1236] at e
      refine mm_T.guard (c := (((3 * (y1 - 1)) + y5) + 1) < 0 ∨ 18 ≤ (((3 * (y1 - 1)) + y5) + 1).toNatClampNeg) (y := ((56, [some (.ref 62), some (.int y1), none, some (.int y3), some (.int y4), some (.int y5)], [(.int (I 104 (((3 * (y1 - 1)) + y5) + 1).toNatClampNeg))]), (107, I, J, mm_rf rv sp rr w nw))) (mm_gen (P := fun z => mm_stp none 325 (55, [some (.ref 62), some (.int y1), none, some (.int y3), some (.int y4), some (.int y5)], [(.int z), (.ref 104)]) (107, I, J, mm_rf rv sp rr w nw) = if z < 0 ∨ 18 ≤ z.toNatClampNeg then none else some (.inl ((56, [some (.ref 62), some (.int y1), none, some (.int y3), some (.int y4), some (.int y5)], [(.int (I 104 z.toNatClampNeg))]), (107, I, J, mm_rf rv sp rr w nw)))) (((3 * (y1 - 1)) + y5) + 1) (fun z => rfl)) h1236 ?_
      refine mm_T.seg (f' := (57, [some (.ref 62), some (.int y1), none, some (.int y3), some (.int y4), some (.int y5)], [(.int y3), (.int (I 104 (((3 * (y1 - 1)) + y5) + 1).toNatClampNeg))])) (h' := (107, I, J, mm_rf rv sp rr w nw)) 1 rfl ?_
      refine mm_T.br (c := (I 104 (((3 * (y1 - 1)) + y5) + 1).toNatClampNeg) = y3) (a := ((60, [some (.ref 62), some (.int y1), none, some (.int y3), some (.int y4), some (.int y5)], []), (107, I, J, mm_rf rv sp rr w nw))) (b := ((64, [some (.ref 62), some (.int y1), none, some (.int y3), some (.int y4), some (.int y5)], []), (107, I, J, mm_rf rv sp rr w nw))) rfl (fun h1237 => ?_) (fun h1237 => ?_)
      · rw [if_pos h1237] at e
        refine mm_T.seg (f' := (35, [some (.ref 62), some (.int y1), none, some (.int y3), some (.int y5), some (.int (y5 + 1))], [])) (h' := (107, I, J, mm_rf rv sp rr w nw)) 4 rfl ?_
        refine mm_T.mask [true, true, false, true, true, true] ?_
        exact ih y1 y3 y5 (y5 + 1) I J rv sp rr w nw out e k
      · rw [if_neg h1237] at e
        refine mm_T.seg (f' := (35, [some (.ref 62), some (.int y1), none, some (.int y3), some (.int y4), some (.int (y5 + 1))], [])) (h' := (107, I, J, mm_rf rv sp rr w nw)) 2 rfl ?_
        refine mm_T.mask [true, true, false, true, true, true] ?_
        exact ih y1 y3 y4 (y5 + 1) I J rv sp rr w nw out e k
set_option maxRecDepth 100000 in
set_option maxHeartbeats 4000000 in
theorem tX12_sure (d n : Nat) (x1 : Int32) (x2 : Int32) (I : Nat → Nat → Int32) (J : Nat → Nat → Int64) (rv sp rr w nw : Nat) (out : Int32 × (Nat → Nat → Int32)) (e : fX12_sure n x1 x2 I = some out) : mm_T none (d + 5) 325 (mm_ent 325 [(.ref 62), (.int x1), (.int x2)]) (107, I, J, mm_rf rv sp rr w nw) (fun v h => v = some (.int out.1) ∧ h = (107, out.2, J, mm_rf rv sp rr w nw)) := by
  unfold fX12_sure at e
  refine mm_T.seg (f' := (6, [some (.ref 62), some (.int x1), some (.int x2), none, none, none], [(.int (I 62 47)), (.int 1), (.int x1)])) (h' := (107, I, J, mm_rf rv sp rr w nw)) 4 rfl ?_
  obtain ⟨g171, hg171⟩ : ∃ z, fX12_isIn x1 1 (I 62 47) = z := ⟨_, rfl⟩
  try rw [hg171] at e
  refine mm_T.call (t := 252) (as := [(.int x1), (.int 1), (.int (I 62 47))]) (f' := (9, [some (.ref 62), some (.int x1), some (.int x2), none, none, none], [])) rfl (tX12_isIn (d + 4) x1 1 (I 62 47) I J rv sp rr w nw g171 hg171) (fun v h hq => ?_)
  obtain ⟨rfl, rfl⟩ := hq
  refine mm_T.br (c := g171 = 0) (a := ((12, [some (.ref 62), some (.int x1), some (.int x2), none, none, none], []), (107, I, J, mm_rf rv sp rr w nw))) (b := ((15, [some (.ref 62), some (.int x1), some (.int x2), none, none, none], []), (107, I, J, mm_rf rv sp rr w nw))) rfl (fun h1229 => ?_) (fun h1229 => ?_)
  · rw [if_pos h1229] at e
    refine mm_T.seg (f' := (14, [some (.ref 62), some (.int x1), some (.int x2), none, none, none], [(.int (-3))])) (h' := (107, I, J, mm_rf rv sp rr w nw)) 1 rfl ?_
    cases e
    exact mm_T.ret rfl ⟨rfl, rfl⟩
  · rw [if_neg h1229] at e
    refine mm_T.seg (f' := (17, [some (.ref 62), some (.int x1), some (.int x2), none, none, none], [(.int x2), (.ref 62)])) (h' := (107, I, J, mm_rf rv sp rr w nw)) 2 rfl ?_
    obtain ⟨o1230, eo1230, e⟩ := mm_bind e
    refine mm_T.call (t := 323) (as := [(.ref 62), (.int x2)]) (f' := (20, [some (.ref 62), some (.int x1), some (.int x2), none, none, none], [])) rfl (tX12_layFits (d + 0) n x2 I J rv sp rr w nw o1230 eo1230) (fun v h hq => ?_)
    obtain ⟨rfl, rfl⟩ := hq
    refine mm_T.seg (f' := (22, [some (.ref 62), some (.int x1), some (.int x2), some (.int o1230.1), none, none], [(.int o1230.1)])) (h' := (107, o1230.2, J, mm_rf rv sp rr w nw)) 2 rfl ?_
    refine mm_T.br (c := o1230.1 = 0) (a := ((25, [some (.ref 62), some (.int x1), some (.int x2), some (.int o1230.1), none, none], []), (107, o1230.2, J, mm_rf rv sp rr w nw))) (b := ((28, [some (.ref 62), some (.int x1), some (.int x2), some (.int o1230.1), none, none], []), (107, o1230.2, J, mm_rf rv sp rr w nw))) rfl (fun h1231 => ?_) (fun h1231 => ?_)
    · rw [if_pos h1231] at e
      refine mm_T.seg (f' := (27, [some (.ref 62), some (.int x1), some (.int x2), some (.int o1230.1), none, none], [(.int (-3))])) (h' := (107, o1230.2, J, mm_rf rv sp rr w nw)) 1 rfl ?_
      cases e
      exact mm_T.ret rfl ⟨rfl, rfl⟩
    · rw [if_neg h1231] at e
      refine mm_T.seg (f' := (35, [some (.ref 62), some (.int x1), some (.int x2), some (.int o1230.1), some (.int (-2)), some (.int (-1))], [])) (h' := (107, o1230.2, J, mm_rf rv sp rr w nw)) 4 rfl ?_
      refine mm_T.mask [true, true, false, true, true, true] ?_
      obtain ⟨o1238, eo1238, e⟩ := mm_bind e
      refine tlX12_sure_L35 d _ n x1 o1230.1 (-2) (-1) o1230.2 J rv sp rr w nw o1238 eo1238 ?_
      refine mm_T.seg (f' := (72, [none, none, none, none, some (.int o1238), none], [(.int o1238)])) (h' := (107, o1230.2, J, mm_rf rv sp rr w nw)) 1 rfl ?_
      cases e
      exact mm_T.ret rfl ⟨rfl, rfl⟩
set_option maxRecDepth 100000 in
set_option maxHeartbeats 4000000 in
theorem tlX12_leftBy_L4 (d : Nat) (Q : Option Value → mm_H → Prop) : ∀ (n : Nat) (y1 : Int32) (y2 : Int32) (y3 : Int32) (I : Nat → Nat → Int32) (J : Nat → Nat → Int64) (rv sp rr w nw : Nat), ∀ (out : Int32), fX12_leftBy_L4 n y1 y2 y3 I = some out → mm_T none (d + 0) 326 (44, [none, none, some (.int out), none], []) (107, I, J, mm_rf rv sp rr w nw) Q → mm_T none (d + 0) 326 (4, [some (.ref 62), some (.int y1), some (.int y2), some (.int y3)], []) (107, I, J, mm_rf rv sp rr w nw) Q := by
  intro n
  induction n with
  | zero =>
    intro y1 y2 y3 I J rv sp rr w nw out e k
    rw [fX12_leftBy_L4] at e; cases e
  | succ n ih =>
    intro y1 y2 y3 I J rv sp rr w nw out e k
    rw [fX12_leftBy_L4] at e
    refine mm_T.seg (f' := (6, [some (.ref 62), some (.int y1), some (.int y2), some (.int y3)], [(.int 3), (.int y3)])) (h' := (107, I, J, mm_rf rv sp rr w nw)) 2 rfl ?_
    refine mm_T.br (c := y3 < 3) (a := ((9, [some (.ref 62), some (.int y1), some (.int y2), some (.int y3)], []), (107, I, J, mm_rf rv sp rr w nw))) (b := ((44, [some (.ref 62), some (.int y1), some (.int y2), some (.int y3)], []), (107, I, J, mm_rf rv sp rr w nw))) rfl (fun h1243 => ?_) (fun h1243 => ?_)
    · rw [if_pos h1243] at e
      refine mm_T.seg (f' := (13, [some (.ref 62), some (.int y1), some (.int y2), some (.int y3)], [(.ref 104)])) (h' := (107, I, J, mm_rf rv sp rr w nw)) 2 rfl ?_
      refine mm_T.seg (f' := (18, [some (.ref 62), some (.int y1), some (.int y2), some (.int y3)], [(.int ((3 * y1) + y3)), (.ref 104)])) (h' := (107, I, J, mm_rf rv sp rr w nw)) 5 rfl ?_
      by_cases h1244 : ((3 * y1) + y3) < 0 ∨ 18 ≤ ((3 * y1) + y3).toNatClampNeg
      · rw [if_pos h1244] at e; cases e
      rw [if_neg h1244] at e
      refine mm_T.guard (c := ((3 * y1) + y3) < 0 ∨ 18 ≤ ((3 * y1) + y3).toNatClampNeg) (y := ((19, [some (.ref 62), some (.int y1), some (.int y2), some (.int y3)], [(.int (I 104 ((3 * y1) + y3).toNatClampNeg))]), (107, I, J, mm_rf rv sp rr w nw))) (mm_gen (P := fun z => mm_stp none 326 (18, [some (.ref 62), some (.int y1), some (.int y2), some (.int y3)], [(.int z), (.ref 104)]) (107, I, J, mm_rf rv sp rr w nw) = if z < 0 ∨ 18 ≤ z.toNatClampNeg then none else some (.inl ((19, [some (.ref 62), some (.int y1), some (.int y2), some (.int y3)], [(.int (I 104 z.toNatClampNeg))]), (107, I, J, mm_rf rv sp rr w nw)))) ((3 * y1) + y3) (fun z => rfl)) h1244 ?_
      refine mm_T.seg (f' := (20, [some (.ref 62), some (.int y1), some (.int y2), some (.int y3)], [(.int y2), (.int (I 104 ((3 * y1) + y3).toNatClampNeg))])) (h' := (107, I, J, mm_rf rv sp rr w nw)) 1 rfl ?_
      refine mm_T.br (c := y2 < (I 104 ((3 * y1) + y3).toNatClampNeg)) (a := ((23, [some (.ref 62), some (.int y1), some (.int y2), some (.int y3)], []), (107, I, J, mm_rf rv sp rr w nw))) (b := ((36, [some (.ref 62), some (.int y1), some (.int y2), some (.int y3)], []), (107, I, J, mm_rf rv sp rr w nw))) rfl (fun h1245 => ?_) (fun h1245 => ?_)
      · rw [if_pos h1245] at e
        refine mm_T.seg (f' := (27, [some (.ref 62), some (.int y1), some (.int y2), some (.int y3)], [(.ref 104)])) (h' := (107, I, J, mm_rf rv sp rr w nw)) 2 rfl ?_
        refine mm_T.seg (f' := (32, [some (.ref 62), some (.int y1), some (.int y2), some (.int y3)], [(.int ((3 * y1) + y3)), (.ref 104)])) (h' := (107, I, J, mm_rf rv sp rr w nw)) 5 rfl ?_
        by_cases h1246 : ((3 * y1) + y3) < 0 ∨ 18 ≤ ((3 * y1) + y3).toNatClampNeg
        · rw [if_pos h1246] at e; cases e
        rw [if_neg h1246] at e
        refine mm_T.guard (c := ((3 * y1) + y3) < 0 ∨ 18 ≤ ((3 * y1) + y3).toNatClampNeg) (y := ((33, [some (.ref 62), some (.int y1), some (.int y2), some (.int y3)], [(.int (I 104 ((3 * y1) + y3).toNatClampNeg))]), (107, I, J, mm_rf rv sp rr w nw))) (mm_gen (P := fun z => mm_stp none 326 (32, [some (.ref 62), some (.int y1), some (.int y2), some (.int y3)], [(.int z), (.ref 104)]) (107, I, J, mm_rf rv sp rr w nw) = if z < 0 ∨ 18 ≤ z.toNatClampNeg then none else some (.inl ((33, [some (.ref 62), some (.int y1), some (.int y2), some (.int y3)], [(.int (I 104 z.toNatClampNeg))]), (107, I, J, mm_rf rv sp rr w nw)))) ((3 * y1) + y3) (fun z => rfl)) h1246 ?_
        refine mm_T.seg (f' := (4, [some (.ref 62), some (.int y1), some (.int (I 104 ((3 * y1) + y3).toNatClampNeg)), some (.int (y3 + 1))], [])) (h' := (107, I, J, mm_rf rv sp rr w nw)) 4 rfl ?_
        refine mm_T.mask [true, true, true, true] ?_
        exact ih y1 (I 104 ((3 * y1) + y3).toNatClampNeg) (y3 + 1) I J rv sp rr w nw out e k
      · rw [if_neg h1245] at e
        refine mm_T.seg (f' := (4, [some (.ref 62), some (.int y1), some (.int y2), some (.int (y3 + 1))], [])) (h' := (107, I, J, mm_rf rv sp rr w nw)) 4 rfl ?_
        refine mm_T.mask [true, true, true, true] ?_
        exact ih y1 y2 (y3 + 1) I J rv sp rr w nw out e k
    · rw [if_neg h1243] at e
      cases e
      refine mm_T.mask [false, false, true, false] ?_
      exact k
set_option maxRecDepth 100000 in
set_option maxHeartbeats 4000000 in
theorem tX12_leftBy (d n : Nat) (x1 : Int32) (I : Nat → Nat → Int32) (J : Nat → Nat → Int64) (rv sp rr w nw : Nat) (out : Int32) (e : fX12_leftBy n x1 I = some out) : mm_T none (d + 0) 326 (mm_ent 326 [(.ref 62), (.int x1)]) (107, I, J, mm_rf rv sp rr w nw) (fun v h => v = some (.int out) ∧ h = (107, I, J, mm_rf rv sp rr w nw)) := by
  unfold fX12_leftBy at e
  refine mm_T.seg (f' := (4, [some (.ref 62), some (.int x1), some (.int 0), some (.int 0)], [])) (h' := (107, I, J, mm_rf rv sp rr w nw)) 4 rfl ?_
  refine mm_T.mask [true, true, true, true] ?_
  obtain ⟨o1247, eo1247, e⟩ := mm_bind e
  refine tlX12_leftBy_L4 d _ n x1 0 0 I J rv sp rr w nw o1247 eo1247 ?_
  refine mm_T.seg (f' := (45, [none, none, some (.int o1247), none], [(.int o1247)])) (h' := (107, I, J, mm_rf rv sp rr w nw)) 1 rfl ?_
  cases e
  exact mm_T.ret rfl ⟨rfl, rfl⟩
set_option maxRecDepth 100000 in
set_option maxHeartbeats 4000000 in
theorem tlX12_ask_L24 (d : Nat) (Q : Option Value → mm_H → Prop) : ∀ (n : Nat) (y1 : Int32) (y3 : Int32) (y4 : Int32) (I : Nat → Nat → Int32) (J : Nat → Nat → Int64) (rv sp rr w nw : Nat), ∀ (out : Int32), fX12_ask_L24 n y1 y3 y4 I = some out → mm_T none (d + 5) 327 (60, [some (.ref 62), some (.int y1), none, some (.int out), none], []) (107, I, J, mm_rf rv sp rr w nw) Q → mm_T none (d + 5) 327 (24, [some (.ref 62), some (.int y1), none, some (.int y3), some (.int y4)], []) (107, I, J, mm_rf rv sp rr w nw) Q := by
  intro n
  induction n with
  | zero =>
    intro y1 y3 y4 I J rv sp rr w nw out e k
    rw [fX12_ask_L24] at e; cases e
  | succ n ih =>
    intro y1 y3 y4 I J rv sp rr w nw out e k
    rw [fX12_ask_L24] at e
    refine mm_T.seg (f' := (30, [some (.ref 62), some (.int y1), none, some (.int y3), some (.int y4)], [(.int (I 62 47)), (.int y4)])) (h' := (107, I, J, mm_rf rv sp rr w nw)) 3 rfl ?_
    refine mm_T.br (c := y4 < (I 62 47)) (a := ((33, [some (.ref 62), some (.int y1), none, some (.int y3), some (.int y4)], []), (107, I, J, mm_rf rv sp rr w nw))) (b := ((60, [some (.ref 62), some (.int y1), none, some (.int y3), some (.int y4)], []), (107, I, J, mm_rf rv sp rr w nw))) rfl (fun h1255 => ?_) (fun h1255 => ?_)
    · rw [if_pos h1255] at e
      refine mm_T.seg (f' := (36, [some (.ref 62), some (.int y1), none, some (.int y3), some (.int y4)], [(.int y4), (.ref 62)])) (h' := (107, I, J, mm_rf rv sp rr w nw)) 2 rfl ?_
      obtain ⟨o1256, eo1256, e⟩ := mm_bind e
      refine mm_T.call (t := 326) (as := [(.ref 62), (.int y4)]) (f' := (39, [some (.ref 62), some (.int y1), none, some (.int y3), some (.int y4)], [])) rfl (tX12_leftBy (d + 4) n y4 I J rv sp rr w nw o1256 eo1256) (fun v h hq => ?_)
      obtain ⟨rfl, rfl⟩ := hq
      refine mm_T.seg (f' := (41, [some (.ref 62), some (.int y1), none, some (.int y3), some (.int y4)], [(.int y3), (.ref 62), (.int o1256)])) (h' := (107, I, J, mm_rf rv sp rr w nw)) 2 rfl ?_
      obtain ⟨o1257, eo1257, e⟩ := mm_bind e
      refine mm_T.call (t := 326) (as := [(.ref 62), (.int y3)]) (f' := (44, [some (.ref 62), some (.int y1), none, some (.int y3), some (.int y4)], [(.int o1256)])) rfl (tX12_leftBy (d + 4) n y3 I J rv sp rr w nw o1257 eo1257) (fun v h hq => ?_)
      obtain ⟨rfl, rfl⟩ := hq
      refine mm_T.br (c := o1256 < o1257) (a := ((47, [some (.ref 62), some (.int y1), none, some (.int y3), some (.int y4)], []), (107, I, J, mm_rf rv sp rr w nw))) (b := ((52, [some (.ref 62), some (.int y1), none, some (.int y3), some (.int y4)], []), (107, I, J, mm_rf rv sp rr w nw))) rfl (fun h1258 => ?_) (fun h1258 => ?_)
      · rw [if_pos h1258] at e
        refine mm_T.seg (f' := (24, [some (.ref 62), some (.int y1), none, some (.int y4), some (.int (y4 + 1))], [])) (h' := (107, I, J, mm_rf rv sp rr w nw)) 5 rfl ?_
        refine mm_T.mask [true, true, false, true, true] ?_
        exact ih y1 y4 (y4 + 1) I J rv sp rr w nw out e k
      · rw [if_neg h1258] at e
        refine mm_T.seg (f' := (24, [some (.ref 62), some (.int y1), none, some (.int y3), some (.int (y4 + 1))], [])) (h' := (107, I, J, mm_rf rv sp rr w nw)) 4 rfl ?_
        refine mm_T.mask [true, true, false, true, true] ?_
        exact ih y1 y3 (y4 + 1) I J rv sp rr w nw out e k
    · rw [if_neg h1255] at e
      cases e
      refine mm_T.mask [true, true, false, true, false] ?_
      exact k
set_option maxRecDepth 100000 in
set_option maxHeartbeats 4000000 in
theorem tX12_ask (d n : Nat) (x1 : Int32) (x2 : Int32) (I : Nat → Nat → Int32) (J : Nat → Nat → Int64) (rv sp rr w nw : Nat) (out : Int32 × (Nat → Nat → Int32)) (e : fX12_ask n x1 x2 I = some out) : mm_T none (d + 5) 327 (mm_ent 327 [(.ref 62), (.int x1), (.int x2)]) (107, I, J, mm_rf rv sp rr w nw) (fun v h => v = some (.int out.1) ∧ h = (107, out.2, J, mm_rf rv sp rr w nw)) := by
  unfold fX12_ask at e
  refine mm_T.seg (f' := (3, [some (.ref 62), some (.int x1), some (.int x2), none, none], [(.int 1), (.int 0), (.int x1)])) (h' := (107, I, J, mm_rf rv sp rr w nw)) 3 rfl ?_
  obtain ⟨g172, hg172⟩ : ∃ z, fX12_isIn x1 0 1 = z := ⟨_, rfl⟩
  try rw [hg172] at e
  refine mm_T.call (t := 252) (as := [(.int x1), (.int 0), (.int 1)]) (f' := (6, [some (.ref 62), some (.int x1), some (.int x2), none, none], [])) rfl (tX12_isIn (d + 4) x1 0 1 I J rv sp rr w nw g172 hg172) (fun v h hq => ?_)
  obtain ⟨rfl, rfl⟩ := hq
  refine mm_T.br (c := g172 = 0) (a := ((17, [some (.ref 62), some (.int x1), some (.int x2), none, none], []), (107, I, J, mm_rf rv sp rr w nw))) (b := ((9, [some (.ref 62), some (.int x1), some (.int x2), none, none], []), (107, I, J, mm_rf rv sp rr w nw))) rfl (fun h1248 => ?_) (fun h1248 => ?_)
  · rw [if_pos h1248] at e
    refine mm_T.seg (f' := (18, [some (.ref 62), some (.int x1), some (.int x2), none, none], [(.int (-1))])) (h' := (107, I, J, mm_rf rv sp rr w nw)) 1 rfl ?_
    cases e
    exact mm_T.ret rfl ⟨rfl, rfl⟩
  · rw [if_neg h1248] at e
    refine mm_T.seg (f' := (11, [some (.ref 62), some (.int x1), some (.int x2), none, none], [(.int x2), (.ref 62)])) (h' := (107, I, J, mm_rf rv sp rr w nw)) 2 rfl ?_
    obtain ⟨o1249, eo1249, e⟩ := mm_bind e
    refine mm_T.call (t := 323) (as := [(.ref 62), (.int x2)]) (f' := (14, [some (.ref 62), some (.int x1), some (.int x2), none, none], [])) rfl (tX12_layFits (d + 0) n x2 I J rv sp rr w nw o1249 eo1249) (fun v h hq => ?_)
    obtain ⟨rfl, rfl⟩ := hq
    refine mm_T.br (c := o1249.1 = 0) (a := ((17, [some (.ref 62), some (.int x1), some (.int x2), none, none], []), (107, o1249.2, J, mm_rf rv sp rr w nw))) (b := ((19, [some (.ref 62), some (.int x1), some (.int x2), none, none], []), (107, o1249.2, J, mm_rf rv sp rr w nw))) rfl (fun h1250 => ?_) (fun h1250 => ?_)
    · rw [if_pos h1250] at e
      refine mm_T.seg (f' := (18, [some (.ref 62), some (.int x1), some (.int x2), none, none], [(.int (-1))])) (h' := (107, o1249.2, J, mm_rf rv sp rr w nw)) 1 rfl ?_
      cases e
      exact mm_T.ret rfl ⟨rfl, rfl⟩
    · rw [if_neg h1250] at e
      refine mm_T.seg (f' := (24, [some (.ref 62), some (.int x1), some (.int x2), some (.int 0), some (.int 1)], [])) (h' := (107, o1249.2, J, mm_rf rv sp rr w nw)) 4 rfl ?_
      refine mm_T.mask [true, true, false, true, true] ?_
      obtain ⟨o1259, eo1259, e⟩ := mm_bind e
      refine tlX12_ask_L24 d _ n x1 0 1 o1249.2 J rv sp rr w nw o1259 eo1259 ?_
      refine mm_T.seg (f' := (61, [some (.ref 62), some (.int x1), none, some (.int o1259), none], [(.int x1)])) (h' := (107, o1249.2, J, mm_rf rv sp rr w nw)) 1 rfl ?_
      refine mm_T.br (c := x1 = 0) (a := ((64, [some (.ref 62), some (.int x1), none, some (.int o1259), none], []), (107, o1249.2, J, mm_rf rv sp rr w nw))) (b := ((70, [some (.ref 62), some (.int x1), none, some (.int o1259), none], []), (107, o1249.2, J, mm_rf rv sp rr w nw))) rfl (fun h1260 => ?_) (fun h1260 => ?_)
      · rw [if_pos h1260] at e
        refine mm_T.seg (f' := (75, [some (.ref 62), some (.int x1), none, some (.int o1259), none], [(.int (o1259 + 1))])) (h' := (107, o1249.2, J, mm_rf rv sp rr w nw)) 4 rfl ?_
        cases e
        exact mm_T.ret rfl ⟨rfl, rfl⟩
      · rw [if_neg h1260] at e
        refine mm_T.seg (f' := (72, [some (.ref 62), some (.int x1), none, some (.int o1259), none], [(.int o1259), (.ref 62)])) (h' := (107, o1249.2, J, mm_rf rv sp rr w nw)) 2 rfl ?_
        obtain ⟨o1261, eo1261, e⟩ := mm_bind e
        refine mm_T.call (t := 326) (as := [(.ref 62), (.int o1259)]) (f' := (75, [some (.ref 62), some (.int x1), none, some (.int o1259), none], [])) rfl (tX12_leftBy (d + 4) n o1259 o1249.2 J rv sp rr w nw o1261 eo1261) (fun v h hq => ?_)
        obtain ⟨rfl, rfl⟩ := hq
        cases e
        exact mm_T.ret rfl ⟨rfl, rfl⟩
set_option maxRecDepth 100000 in
set_option maxHeartbeats 4000000 in
theorem tX12_isBox (d : Nat) (x0 : Int32) (I : Nat → Nat → Int32) (J : Nat → Nat → Int64) (rv sp rr w nw : Nat) (out : Int32) (e : fX12_isBox x0 = out) : mm_T none (d + 0) 328 (mm_ent 328 [(.int x0)]) (107, I, J, mm_rf rv sp rr w nw) (fun v h => v = some (.int out) ∧ h = (107, I, J, mm_rf rv sp rr w nw)) := by
  unfold fX12_isBox at e
  refine mm_T.seg (f' := (1, [some (.int x0)], [(.int x0)])) (h' := (107, I, J, mm_rf rv sp rr w nw)) 1 rfl ?_
  refine mm_T.br (c := x0 < 0) (a := ((13, [some (.int x0)], []), (107, I, J, mm_rf rv sp rr w nw))) (b := ((4, [some (.int x0)], []), (107, I, J, mm_rf rv sp rr w nw))) rfl (fun h1262 => ?_) (fun h1262 => ?_)
  · rw [if_pos h1262] at e
    refine mm_T.seg (f' := (14, [some (.int x0)], [(.int 0)])) (h' := (107, I, J, mm_rf rv sp rr w nw)) 1 rfl ?_
    cases e
    exact mm_T.ret rfl ⟨rfl, rfl⟩
  · rw [if_neg h1262] at e
    refine mm_T.seg (f' := (6, [some (.int x0)], [(.int 3), (.int x0)])) (h' := (107, I, J, mm_rf rv sp rr w nw)) 2 rfl ?_
    refine mm_T.br (c := x0 < 3) (a := ((9, [some (.int x0)], []), (107, I, J, mm_rf rv sp rr w nw))) (b := ((13, [some (.int x0)], []), (107, I, J, mm_rf rv sp rr w nw))) rfl (fun h1263 => ?_) (fun h1263 => ?_)
    · rw [if_pos h1263] at e
      refine mm_T.seg (f' := (14, [some (.int x0)], [(.int 1)])) (h' := (107, I, J, mm_rf rv sp rr w nw)) 2 rfl ?_
      cases e
      exact mm_T.ret rfl ⟨rfl, rfl⟩
    · rw [if_neg h1263] at e
      refine mm_T.seg (f' := (14, [some (.int x0)], [(.int 0)])) (h' := (107, I, J, mm_rf rv sp rr w nw)) 1 rfl ?_
      cases e
      exact mm_T.ret rfl ⟨rfl, rfl⟩
set_option maxRecDepth 100000 in
set_option maxHeartbeats 4000000 in
theorem tlX12_image_L18 (d : Nat) (Q : Option Value → mm_H → Prop) : ∀ (n : Nat) (y1 : Int32) (y2 : Int32) (I : Nat → Nat → Int32) (J : Nat → Nat → Int64) (rv sp rr w nw : Nat), ∀ (out : (Nat → Nat → Int32)), fX12_image_L18 n y1 y2 I = some out → mm_T none (d + 3) 329 (47, [some (.ref 62), none, none], []) (107, out, J, mm_rf rv sp rr w nw) Q → mm_T none (d + 3) 329 (18, [some (.ref 62), some (.int y1), some (.int y2)], []) (107, I, J, mm_rf rv sp rr w nw) Q := by
  intro n
  induction n with
  | zero =>
    intro y1 y2 I J rv sp rr w nw out e k
    rw [fX12_image_L18] at e; cases e
  | succ n ih =>
    intro y1 y2 I J rv sp rr w nw out e k
    rw [fX12_image_L18] at e
    refine mm_T.seg (f' := (21, [some (.ref 62), some (.int y1), some (.int y2)], [(.int 28), (.int y2)])) (h' := (107, I, J, mm_rf rv sp rr w nw)) 2 rfl ?_
    refine mm_T.br (c := y2 < 28) (a := ((24, [some (.ref 62), some (.int y1), some (.int y2)], []), (107, I, J, mm_rf rv sp rr w nw))) (b := ((47, [some (.ref 62), some (.int y1), some (.int y2)], []), (107, I, J, mm_rf rv sp rr w nw))) rfl (fun h1266 => ?_) (fun h1266 => ?_)
    · rw [if_pos h1266] at e
      refine mm_T.seg (f' := (28, [some (.ref 62), some (.int y1), some (.int y2)], [(.ref 106)])) (h' := (107, I, J, mm_rf rv sp rr w nw)) 2 rfl ?_
      refine mm_T.seg (f' := (38, [some (.ref 62), some (.int y1), some (.int y2)], [(.ref 84), (.int ((28 * y1) + y2)), (.ref 106)])) (h' := (107, I, J, mm_rf rv sp rr w nw)) 7 rfl ?_
      refine mm_T.seg (f' := (39, [some (.ref 62), some (.int y1), some (.int y2)], [(.int y2), (.ref 84), (.int ((28 * y1) + y2)), (.ref 106)])) (h' := (107, I, J, mm_rf rv sp rr w nw)) 1 rfl ?_
      by_cases h1267 : y2 < 0 ∨ 28 ≤ y2.toNatClampNeg
      · rw [if_pos h1267] at e; cases e
      rw [if_neg h1267] at e
      refine mm_T.guard (y := ((40, [some (.ref 62), some (.int y1), some (.int y2)], [(.int (I 84 y2.toNatClampNeg)), (.int ((28 * y1) + y2)), (.ref 106)]), (107, I, J, mm_rf rv sp rr w nw))) rfl h1267 ?_
      by_cases h1268 : ((28 * y1) + y2) < 0 ∨ 84 ≤ ((28 * y1) + y2).toNatClampNeg
      · rw [if_pos h1268] at e; cases e
      rw [if_neg h1268] at e
      refine mm_T.guard (c := ((28 * y1) + y2) < 0 ∨ 84 ≤ ((28 * y1) + y2).toNatClampNeg) (y := ((41, [some (.ref 62), some (.int y1), some (.int y2)], []), (107, (mm_up I 106 ((28 * y1) + y2).toNatClampNeg (I 84 y2.toNatClampNeg)), J, mm_rf rv sp rr w nw))) (mm_gen (P := fun z => mm_stp none 329 (40, [some (.ref 62), some (.int y1), some (.int y2)], [(.int (I 84 y2.toNatClampNeg)), (.int z), (.ref 106)]) (107, I, J, mm_rf rv sp rr w nw) = if z < 0 ∨ 84 ≤ z.toNatClampNeg then none else some (.inl ((41, [some (.ref 62), some (.int y1), some (.int y2)], []), (107, (mm_up I 106 z.toNatClampNeg (I 84 y2.toNatClampNeg)), J, mm_rf rv sp rr w nw)))) ((28 * y1) + y2) (fun z => rfl)) h1268 ?_
      refine mm_T.seg (f' := (18, [some (.ref 62), some (.int y1), some (.int (y2 + 1))], [])) (h' := (107, (mm_up I 106 ((28 * y1) + y2).toNatClampNeg (I 84 y2.toNatClampNeg)), J, mm_rf rv sp rr w nw)) 2 rfl ?_
      refine mm_T.mask [true, true, true] ?_
      exact ih y1 (y2 + 1) (mm_up I 106 ((28 * y1) + y2).toNatClampNeg (I 84 y2.toNatClampNeg)) J rv sp rr w nw out e k
    · rw [if_neg h1266] at e
      cases e
      refine mm_T.mask [true, false, false] ?_
      exact k
set_option maxRecDepth 100000 in
set_option maxHeartbeats 4000000 in
theorem tX12_image (d n : Nat) (x1 : Int32) (I : Nat → Nat → Int32) (J : Nat → Nat → Int64) (rv sp rr w nw : Nat) (out : Int32 × (Nat → Nat → Int32)) (e : fX12_image n x1 I = some out) : mm_T none (d + 3) 329 (mm_ent 329 [(.ref 62), (.int x1)]) (107, I, J, mm_rf rv sp rr w nw) (fun v h => v = some (.int out.1) ∧ h = (107, out.2, J, mm_rf rv sp rr w nw)) := by
  unfold fX12_image at e
  refine mm_T.seg (f' := (1, [some (.ref 62), some (.int x1), none], [(.int x1)])) (h' := (107, I, J, mm_rf rv sp rr w nw)) 1 rfl ?_
  obtain ⟨g173, hg173⟩ : ∃ z, fX12_isBox x1 = z := ⟨_, rfl⟩
  try rw [hg173] at e
  refine mm_T.call (t := 328) (as := [(.int x1)]) (f' := (4, [some (.ref 62), some (.int x1), none], [])) rfl (tX12_isBox (d + 2) x1 I J rv sp rr w nw g173 hg173) (fun v h hq => ?_)
  obtain ⟨rfl, rfl⟩ := hq
  refine mm_T.br (c := g173 = 0) (a := ((7, [some (.ref 62), some (.int x1), none], []), (107, I, J, mm_rf rv sp rr w nw))) (b := ((9, [some (.ref 62), some (.int x1), none], []), (107, I, J, mm_rf rv sp rr w nw))) rfl (fun h1264 => ?_) (fun h1264 => ?_)
  · rw [if_pos h1264] at e
    refine mm_T.seg (f' := (8, [some (.ref 62), some (.int x1), none], [(.int (-1))])) (h' := (107, I, J, mm_rf rv sp rr w nw)) 1 rfl ?_
    cases e
    exact mm_T.ret rfl ⟨rfl, rfl⟩
  · rw [if_neg h1264] at e
    refine mm_T.seg (f' := (13, [some (.ref 62), some (.int x1), none], [(.ref 105)])) (h' := (107, I, J, mm_rf rv sp rr w nw)) 2 rfl ?_
    refine mm_T.seg (f' := (15, [some (.ref 62), some (.int x1), none], [(.int 1), (.int x1), (.ref 105)])) (h' := (107, I, J, mm_rf rv sp rr w nw)) 2 rfl ?_
    by_cases h1265 : x1 < 0 ∨ 3 ≤ x1.toNatClampNeg
    · rw [if_pos h1265] at e; cases e
    rw [if_neg h1265] at e
    refine mm_T.guard (y := ((16, [some (.ref 62), some (.int x1), none], []), (107, (mm_up I 105 x1.toNatClampNeg (vp_nar .boolean 1)), J, mm_rf rv sp rr w nw))) rfl h1265 ?_
    refine mm_T.seg (f' := (18, [some (.ref 62), some (.int x1), some (.int 0)], [])) (h' := (107, (mm_up I 105 x1.toNatClampNeg (vp_nar .boolean 1)), J, mm_rf rv sp rr w nw)) 2 rfl ?_
    refine mm_T.mask [true, true, true] ?_
    obtain ⟨o1269, eo1269, e⟩ := mm_bind e
    refine tlX12_image_L18 d _ n x1 0 (mm_up I 105 x1.toNatClampNeg (vp_nar .boolean 1)) J rv sp rr w nw o1269 eo1269 ?_
    refine mm_T.seg (f' := (48, [some (.ref 62), none, none], [(.ref 62)])) (h' := (107, o1269, J, mm_rf rv sp rr w nw)) 1 rfl ?_
    obtain ⟨o1270, eo1270, e⟩ := mm_bind e
    refine mm_T.call (t := 311) (as := [(.ref 62)]) (f' := (51, [some (.ref 62), none, none], [])) rfl (tX12_over (d + 0) n o1269 J rv sp rr w nw o1270 eo1270) (fun v h hq => ?_)
    obtain ⟨rfl, rfl⟩ := hq
    obtain ⟨o1271, eo1271, e⟩ := mm_bind e
    refine mm_T.call (t := 255) (as := [(.int o1270.1)]) (f' := (54, [some (.ref 62), none, none], [])) rfl (tX12_members (d + 2) n o1270.1 o1270.2 J rv sp rr w nw o1271 eo1271) (fun v h hq => ?_)
    obtain ⟨rfl, rfl⟩ := hq
    cases e
    exact mm_T.ret rfl ⟨rfl, rfl⟩
set_option maxRecDepth 100000 in
set_option maxHeartbeats 4000000 in
theorem tlX12_back_L20 (d : Nat) (Q : Option Value → mm_H → Prop) : ∀ (n : Nat) (y1 : Int32) (y2 : Int32) (I : Nat → Nat → Int32) (J : Nat → Nat → Int64) (rv sp rr w nw : Nat), ∀ (out : (Nat → Nat → Int32)), fX12_back_L20 n y1 y2 I = some out → mm_T none (d + 3) 330 (49, [some (.ref 62), none, none], []) (107, out, J, mm_rf rv sp rr w nw) Q → mm_T none (d + 3) 330 (20, [some (.ref 62), some (.int y1), some (.int y2)], []) (107, I, J, mm_rf rv sp rr w nw) Q := by
  intro n
  induction n with
  | zero =>
    intro y1 y2 I J rv sp rr w nw out e k
    rw [fX12_back_L20] at e; cases e
  | succ n ih =>
    intro y1 y2 I J rv sp rr w nw out e k
    rw [fX12_back_L20] at e
    refine mm_T.seg (f' := (23, [some (.ref 62), some (.int y1), some (.int y2)], [(.int 28), (.int y2)])) (h' := (107, I, J, mm_rf rv sp rr w nw)) 2 rfl ?_
    refine mm_T.br (c := y2 < 28) (a := ((26, [some (.ref 62), some (.int y1), some (.int y2)], []), (107, I, J, mm_rf rv sp rr w nw))) (b := ((49, [some (.ref 62), some (.int y1), some (.int y2)], []), (107, I, J, mm_rf rv sp rr w nw))) rfl (fun h1275 => ?_) (fun h1275 => ?_)
    · rw [if_pos h1275] at e
      refine mm_T.seg (f' := (30, [some (.ref 62), some (.int y1), some (.int y2)], [(.ref 84)])) (h' := (107, I, J, mm_rf rv sp rr w nw)) 2 rfl ?_
      refine mm_T.seg (f' := (35, [some (.ref 62), some (.int y1), some (.int y2)], [(.ref 106), (.int y2), (.ref 84)])) (h' := (107, I, J, mm_rf rv sp rr w nw)) 3 rfl ?_
      refine mm_T.seg (f' := (41, [some (.ref 62), some (.int y1), some (.int y2)], [(.int ((28 * y1) + y2)), (.ref 106), (.int y2), (.ref 84)])) (h' := (107, I, J, mm_rf rv sp rr w nw)) 5 rfl ?_
      by_cases h1276 : ((28 * y1) + y2) < 0 ∨ 84 ≤ ((28 * y1) + y2).toNatClampNeg
      · rw [if_pos h1276] at e; cases e
      rw [if_neg h1276] at e
      refine mm_T.guard (c := ((28 * y1) + y2) < 0 ∨ 84 ≤ ((28 * y1) + y2).toNatClampNeg) (y := ((42, [some (.ref 62), some (.int y1), some (.int y2)], [(.int (I 106 ((28 * y1) + y2).toNatClampNeg)), (.int y2), (.ref 84)]), (107, I, J, mm_rf rv sp rr w nw))) (mm_gen (P := fun z => mm_stp none 330 (41, [some (.ref 62), some (.int y1), some (.int y2)], [(.int z), (.ref 106), (.int y2), (.ref 84)]) (107, I, J, mm_rf rv sp rr w nw) = if z < 0 ∨ 84 ≤ z.toNatClampNeg then none else some (.inl ((42, [some (.ref 62), some (.int y1), some (.int y2)], [(.int (I 106 z.toNatClampNeg)), (.int y2), (.ref 84)]), (107, I, J, mm_rf rv sp rr w nw)))) ((28 * y1) + y2) (fun z => rfl)) h1276 ?_
      by_cases h1277 : y2 < 0 ∨ 28 ≤ y2.toNatClampNeg
      · rw [if_pos h1277] at e; cases e
      rw [if_neg h1277] at e
      refine mm_T.guard (y := ((43, [some (.ref 62), some (.int y1), some (.int y2)], []), (107, (mm_up I 84 y2.toNatClampNeg (I 106 ((28 * y1) + y2).toNatClampNeg)), J, mm_rf rv sp rr w nw))) rfl h1277 ?_
      refine mm_T.seg (f' := (20, [some (.ref 62), some (.int y1), some (.int (y2 + 1))], [])) (h' := (107, (mm_up I 84 y2.toNatClampNeg (I 106 ((28 * y1) + y2).toNatClampNeg)), J, mm_rf rv sp rr w nw)) 2 rfl ?_
      refine mm_T.mask [true, true, true] ?_
      exact ih y1 (y2 + 1) (mm_up I 84 y2.toNatClampNeg (I 106 ((28 * y1) + y2).toNatClampNeg)) J rv sp rr w nw out e k
    · rw [if_neg h1275] at e
      cases e
      refine mm_T.mask [true, false, false] ?_
      exact k
set_option maxRecDepth 100000 in
set_option maxHeartbeats 4000000 in
theorem tX12_back (d n : Nat) (x1 : Int32) (I : Nat → Nat → Int32) (J : Nat → Nat → Int64) (rv sp rr w nw : Nat) (out : Int32 × (Nat → Nat → Int32)) (e : fX12_back n x1 I = some out) : mm_T none (d + 3) 330 (mm_ent 330 [(.ref 62), (.int x1)]) (107, I, J, mm_rf rv sp rr w nw) (fun v h => v = some (.int out.1) ∧ h = (107, out.2, J, mm_rf rv sp rr w nw)) := by
  unfold fX12_back at e
  refine mm_T.seg (f' := (1, [some (.ref 62), some (.int x1), none], [(.int x1)])) (h' := (107, I, J, mm_rf rv sp rr w nw)) 1 rfl ?_
  obtain ⟨g174, hg174⟩ : ∃ z, fX12_isBox x1 = z := ⟨_, rfl⟩
  try rw [hg174] at e
  refine mm_T.call (t := 328) (as := [(.int x1)]) (f' := (4, [some (.ref 62), some (.int x1), none], [])) rfl (tX12_isBox (d + 2) x1 I J rv sp rr w nw g174 hg174) (fun v h hq => ?_)
  obtain ⟨rfl, rfl⟩ := hq
  refine mm_T.br (c := g174 = 0) (a := ((16, [some (.ref 62), some (.int x1), none], []), (107, I, J, mm_rf rv sp rr w nw))) (b := ((7, [some (.ref 62), some (.int x1), none], []), (107, I, J, mm_rf rv sp rr w nw))) rfl (fun h1272 => ?_) (fun h1272 => ?_)
  · rw [if_pos h1272] at e
    refine mm_T.seg (f' := (17, [some (.ref 62), some (.int x1), none], [(.int (-1))])) (h' := (107, I, J, mm_rf rv sp rr w nw)) 1 rfl ?_
    cases e
    exact mm_T.ret rfl ⟨rfl, rfl⟩
  · rw [if_neg h1272] at e
    refine mm_T.seg (f' := (11, [some (.ref 62), some (.int x1), none], [(.ref 105)])) (h' := (107, I, J, mm_rf rv sp rr w nw)) 2 rfl ?_
    refine mm_T.seg (f' := (12, [some (.ref 62), some (.int x1), none], [(.int x1), (.ref 105)])) (h' := (107, I, J, mm_rf rv sp rr w nw)) 1 rfl ?_
    by_cases h1273 : x1 < 0 ∨ 3 ≤ x1.toNatClampNeg
    · rw [if_pos h1273] at e; cases e
    rw [if_neg h1273] at e
    refine mm_T.guard (y := ((13, [some (.ref 62), some (.int x1), none], [(.int (I 105 x1.toNatClampNeg))]), (107, I, J, mm_rf rv sp rr w nw))) rfl h1273 ?_
    refine mm_T.br (c := (I 105 x1.toNatClampNeg) = 0) (a := ((16, [some (.ref 62), some (.int x1), none], []), (107, I, J, mm_rf rv sp rr w nw))) (b := ((18, [some (.ref 62), some (.int x1), none], []), (107, I, J, mm_rf rv sp rr w nw))) rfl (fun h1274 => ?_) (fun h1274 => ?_)
    · rw [if_pos h1274] at e
      refine mm_T.seg (f' := (17, [some (.ref 62), some (.int x1), none], [(.int (-1))])) (h' := (107, I, J, mm_rf rv sp rr w nw)) 1 rfl ?_
      cases e
      exact mm_T.ret rfl ⟨rfl, rfl⟩
    · rw [if_neg h1274] at e
      refine mm_T.seg (f' := (20, [some (.ref 62), some (.int x1), some (.int 0)], [])) (h' := (107, I, J, mm_rf rv sp rr w nw)) 2 rfl ?_
      refine mm_T.mask [true, true, true] ?_
      obtain ⟨o1278, eo1278, e⟩ := mm_bind e
      refine tlX12_back_L20 d _ n x1 0 I J rv sp rr w nw o1278 eo1278 ?_
      refine mm_T.seg (f' := (60, [some (.ref 62), none, none], [(.ref 62)])) (h' := (107, (mm_up (mm_up o1278 62 57 0) 62 58 0), J, mm_rf rv sp rr w nw)) 7 rfl ?_
      obtain ⟨o1279, eo1279, e⟩ := mm_bind e
      refine mm_T.call (t := 311) (as := [(.ref 62)]) (f' := (63, [some (.ref 62), none, none], [])) rfl (tX12_over (d + 0) n (mm_up (mm_up o1278 62 57 0) 62 58 0) J rv sp rr w nw o1279 eo1279) (fun v h hq => ?_)
      obtain ⟨rfl, rfl⟩ := hq
      obtain ⟨o1280, eo1280, e⟩ := mm_bind e
      refine mm_T.call (t := 255) (as := [(.int o1279.1)]) (f' := (66, [some (.ref 62), none, none], [])) rfl (tX12_members (d + 2) n o1279.1 o1279.2 J rv sp rr w nw o1280 eo1280) (fun v h hq => ?_)
      obtain ⟨rfl, rfl⟩ := hq
      cases e
      exact mm_T.ret rfl ⟨rfl, rfl⟩
set_option maxRecDepth 100000 in
set_option maxHeartbeats 4000000 in
theorem tX12_about (d : Nat) (x1 : Int32) (I : Nat → Nat → Int32) (J : Nat → Nat → Int64) (rv sp rr w nw : Nat) (out : Int32) (e : fX12_about x1 I = out) : mm_T none (d + 0) 331 (mm_ent 331 [(.ref 62), (.int x1)]) (107, I, J, mm_rf rv sp rr w nw) (fun v h => v = some (.int out) ∧ h = (107, I, J, mm_rf rv sp rr w nw)) := by
  unfold fX12_about at e
  refine mm_T.seg (f' := (1, [some (.ref 62), some (.int x1)], [(.int x1)])) (h' := (107, I, J, mm_rf rv sp rr w nw)) 1 rfl ?_
  by_cases h1281 : x1 = 0
  · rw [if_pos h1281] at e
    refine mm_T.step (f' := (68, [some (.ref 62), some (.int x1)], [])) (h' := (107, I, J, mm_rf rv sp rr w nw)) (by first | (rw [h1281]; rfl) | exact absurd h1281 (by decide)) ?_
    refine mm_T.seg (f' := (72, [some (.ref 62), some (.int x1)], [(.int (I 62 48))])) (h' := (107, I, J, mm_rf rv sp rr w nw)) 2 rfl ?_
    cases e
    exact mm_T.ret rfl ⟨rfl, rfl⟩
  · rw [if_neg h1281] at e
    by_cases h1282 : x1 = 1
    · rw [if_pos h1282] at e
      refine mm_T.step (f' := (73, [some (.ref 62), some (.int x1)], [])) (h' := (107, I, J, mm_rf rv sp rr w nw)) (by first | (rw [h1282]; rfl) | exact absurd h1282 (by decide)) ?_
      refine mm_T.seg (f' := (77, [some (.ref 62), some (.int x1)], [(.int (I 62 49))])) (h' := (107, I, J, mm_rf rv sp rr w nw)) 2 rfl ?_
      cases e
      exact mm_T.ret rfl ⟨rfl, rfl⟩
    · rw [if_neg h1282] at e
      by_cases h1283 : x1 = 2
      · rw [if_pos h1283] at e
        refine mm_T.step (f' := (78, [some (.ref 62), some (.int x1)], [])) (h' := (107, I, J, mm_rf rv sp rr w nw)) (by first | (rw [h1283]; rfl) | exact absurd h1283 (by decide)) ?_
        refine mm_T.seg (f' := (82, [some (.ref 62), some (.int x1)], [(.int (I 62 46))])) (h' := (107, I, J, mm_rf rv sp rr w nw)) 2 rfl ?_
        cases e
        exact mm_T.ret rfl ⟨rfl, rfl⟩
      · rw [if_neg h1283] at e
        by_cases h1284 : x1 = 3
        · rw [if_pos h1284] at e
          refine mm_T.step (f' := (83, [some (.ref 62), some (.int x1)], [])) (h' := (107, I, J, mm_rf rv sp rr w nw)) (by first | (rw [h1284]; rfl) | exact absurd h1284 (by decide)) ?_
          refine mm_T.seg (f' := (87, [some (.ref 62), some (.int x1)], [(.int (I 62 47))])) (h' := (107, I, J, mm_rf rv sp rr w nw)) 2 rfl ?_
          cases e
          exact mm_T.ret rfl ⟨rfl, rfl⟩
        · rw [if_neg h1284] at e
          by_cases h1285 : x1 = 4
          · rw [if_pos h1285] at e
            refine mm_T.step (f' := (88, [some (.ref 62), some (.int x1)], [])) (h' := (107, I, J, mm_rf rv sp rr w nw)) (by first | (rw [h1285]; rfl) | exact absurd h1285 (by decide)) ?_
            refine mm_T.seg (f' := (92, [some (.ref 62), some (.int x1)], [(.int (I 62 50))])) (h' := (107, I, J, mm_rf rv sp rr w nw)) 2 rfl ?_
            cases e
            exact mm_T.ret rfl ⟨rfl, rfl⟩
          · rw [if_neg h1285] at e
            by_cases h1286 : x1 = 5
            · rw [if_pos h1286] at e
              refine mm_T.step (f' := (93, [some (.ref 62), some (.int x1)], [])) (h' := (107, I, J, mm_rf rv sp rr w nw)) (by first | (rw [h1286]; rfl) | exact absurd h1286 (by decide)) ?_
              refine mm_T.seg (f' := (97, [some (.ref 62), some (.int x1)], [(.ref 84)])) (h' := (107, I, J, mm_rf rv sp rr w nw)) 2 rfl ?_
              refine mm_T.seg (f' := (100, [some (.ref 62), some (.int x1)], [(.int (I 84 27))])) (h' := (107, I, J, mm_rf rv sp rr w nw)) 2 rfl ?_
              cases e
              exact mm_T.ret rfl ⟨rfl, rfl⟩
            · rw [if_neg h1286] at e
              by_cases h1287 : x1 = 6
              · rw [if_pos h1287] at e
                refine mm_T.step (f' := (101, [some (.ref 62), some (.int x1)], [])) (h' := (107, I, J, mm_rf rv sp rr w nw)) (by first | (rw [h1287]; rfl) | exact absurd h1287 (by decide)) ?_
                refine mm_T.seg (f' := (105, [some (.ref 62), some (.int x1)], [(.int (I 62 57))])) (h' := (107, I, J, mm_rf rv sp rr w nw)) 2 rfl ?_
                cases e
                exact mm_T.ret rfl ⟨rfl, rfl⟩
              · rw [if_neg h1287] at e
                by_cases h1288 : x1 = 7
                · rw [if_pos h1288] at e
                  refine mm_T.step (f' := (106, [some (.ref 62), some (.int x1)], [])) (h' := (107, I, J, mm_rf rv sp rr w nw)) (by first | (rw [h1288]; rfl) | exact absurd h1288 (by decide)) ?_
                  refine mm_T.seg (f' := (110, [some (.ref 62), some (.int x1)], [(.int (I 62 58))])) (h' := (107, I, J, mm_rf rv sp rr w nw)) 2 rfl ?_
                  cases e
                  exact mm_T.ret rfl ⟨rfl, rfl⟩
                · rw [if_neg h1288] at e
                  by_cases h1289 : x1 = 8
                  · rw [if_pos h1289] at e
                    refine mm_T.step (f' := (111, [some (.ref 62), some (.int x1)], [])) (h' := (107, I, J, mm_rf rv sp rr w nw)) (by first | (rw [h1289]; rfl) | exact absurd h1289 (by decide)) ?_
                    refine mm_T.seg (f' := (115, [some (.ref 62), some (.int x1)], [(.int (I 62 75))])) (h' := (107, I, J, mm_rf rv sp rr w nw)) 2 rfl ?_
                    cases e
                    exact mm_T.ret rfl ⟨rfl, rfl⟩
                  · rw [if_neg h1289] at e
                    by_cases h1290 : x1 = 9
                    · rw [if_pos h1290] at e
                      refine mm_T.step (f' := (116, [some (.ref 62), some (.int x1)], [])) (h' := (107, I, J, mm_rf rv sp rr w nw)) (by first | (rw [h1290]; rfl) | exact absurd h1290 (by decide)) ?_
                      refine mm_T.seg (f' := (120, [some (.ref 62), some (.int x1)], [(.int (I 62 76))])) (h' := (107, I, J, mm_rf rv sp rr w nw)) 2 rfl ?_
                      cases e
                      exact mm_T.ret rfl ⟨rfl, rfl⟩
                    · rw [if_neg h1290] at e
                      by_cases h1291 : x1 = 10
                      · rw [if_pos h1291] at e
                        refine mm_T.step (f' := (121, [some (.ref 62), some (.int x1)], [])) (h' := (107, I, J, mm_rf rv sp rr w nw)) (by first | (rw [h1291]; rfl) | exact absurd h1291 (by decide)) ?_
                        refine mm_T.seg (f' := (125, [some (.ref 62), some (.int x1)], [(.int (I 62 1))])) (h' := (107, I, J, mm_rf rv sp rr w nw)) 2 rfl ?_
                        cases e
                        exact mm_T.ret rfl ⟨rfl, rfl⟩
                      · rw [if_neg h1291] at e
                        by_cases h1292 : x1 = 11
                        · rw [if_pos h1292] at e
                          refine mm_T.step (f' := (126, [some (.ref 62), some (.int x1)], [])) (h' := (107, I, J, mm_rf rv sp rr w nw)) (by first | (rw [h1292]; rfl) | exact absurd h1292 (by decide)) ?_
                          refine mm_T.seg (f' := (130, [some (.ref 62), some (.int x1)], [(.int (I 62 21))])) (h' := (107, I, J, mm_rf rv sp rr w nw)) 2 rfl ?_
                          cases e
                          exact mm_T.ret rfl ⟨rfl, rfl⟩
                        · rw [if_neg h1292] at e
                          by_cases h1293 : x1 = 12
                          · rw [if_pos h1293] at e
                            refine mm_T.step (f' := (131, [some (.ref 62), some (.int x1)], [])) (h' := (107, I, J, mm_rf rv sp rr w nw)) (by first | (rw [h1293]; rfl) | exact absurd h1293 (by decide)) ?_
                            refine mm_T.seg (f' := (135, [some (.ref 62), some (.int x1)], [(.int (I 62 61))])) (h' := (107, I, J, mm_rf rv sp rr w nw)) 2 rfl ?_
                            cases e
                            exact mm_T.ret rfl ⟨rfl, rfl⟩
                          · rw [if_neg h1293] at e
                            refine mm_T.tabs (lo := 0) (hi := 12) (y := ((136, [some (.ref 62), some (.int x1)], []), (107, I, J, mm_rf rv sp rr w nw))) rfl (mm_swo (0) (12) x1 [0, 1, 2, 3, 4, 5, 6, 7, 8, 9, 10, 11, 12] (by decide) (by intro z hz; simp only [List.mem_cons, List.not_mem_nil, or_false] at hz; rcases hz with rfl | rfl | rfl | rfl | rfl | rfl | rfl | rfl | rfl | rfl | rfl | rfl | rfl <;> first | assumption | decide)) ?_
                            refine mm_T.seg (f' := (137, [some (.ref 62), some (.int x1)], [(.int (-1))])) (h' := (107, I, J, mm_rf rv sp rr w nw)) 1 rfl ?_
                            cases e
                            exact mm_T.ret rfl ⟨rfl, rfl⟩
