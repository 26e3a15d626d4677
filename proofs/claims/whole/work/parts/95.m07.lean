set_option maxRecDepth 100000 in
set_option maxHeartbeats 4000000 in
theorem tX12_guestWorth (d : Nat) (x1 : Int32) (x2 : Int32) (x3 : Int32) (I : Nat → Nat → Int32) (J : Nat → Nat → Int64) (rv sp rr w nw : Nat) (out : Int32) (e : fX12_guestWorth x1 x2 x3 I = some out) : mm_T none (d + 1) 304 (mm_ent 304 [(.ref 62), (.int x1), (.int x2), (.int x3)]) (107, I, J, mm_rf rv sp rr w nw) (fun v h => v = some (.int out) ∧ h = (107, I, J, mm_rf rv sp rr w nw)) := by
  unfold fX12_guestWorth at e
  refine mm_T.seg (f' := (2, [some (.ref 62), some (.int x1), some (.int x2), some (.int x3)], [(.int x3), (.int x2)])) (h' := (107, I, J, mm_rf rv sp rr w nw)) 2 rfl ?_
  refine mm_T.br (c := x2 = x3) (a := ((5, [some (.ref 62), some (.int x1), some (.int x2), some (.int x3)], []), (107, I, J, mm_rf rv sp rr w nw))) (b := ((9, [some (.ref 62), some (.int x1), some (.int x2), some (.int x3)], []), (107, I, J, mm_rf rv sp rr w nw))) rfl (fun h1000 => ?_) (fun h1000 => ?_)
  · rw [if_pos h1000] at e
    refine mm_T.seg (f' := (16, [some (.ref 62), some (.int x1), some (.int x2), some (.int x3)], [(.ref 84), (.int x2), (.int 3)])) (h' := (107, I, J, mm_rf rv sp rr w nw)) 5 rfl ?_
    refine mm_T.seg (f' := (17, [some (.ref 62), some (.int x1), some (.int x2), some (.int x3)], [(.int x1), (.ref 84), (.int x2), (.int 3)])) (h' := (107, I, J, mm_rf rv sp rr w nw)) 1 rfl ?_
    by_cases h1001 : x1 < 0 ∨ 28 ≤ x1.toNatClampNeg
    · rw [if_pos h1001] at e; cases e
    rw [if_neg h1001] at e
    refine mm_T.guard (y := ((18, [some (.ref 62), some (.int x1), some (.int x2), some (.int x3)], [(.int (I 84 x1.toNatClampNeg)), (.int x2), (.int 3)]), (107, I, J, mm_rf rv sp rr w nw))) rfl h1001 ?_
    refine mm_T.seg (f' := (19, [some (.ref 62), some (.int x1), some (.int x2), some (.int x3)], [(.int (x2 - (I 84 x1.toNatClampNeg))), (.int 3)])) (h' := (107, I, J, mm_rf rv sp rr w nw)) 1 rfl ?_
    obtain ⟨g151, hg151⟩ : ∃ z, fX12_plain (x2 - (I 84 x1.toNatClampNeg)) = z := ⟨_, rfl⟩
    try rw [hg151] at e
    refine mm_T.call (t := 239) (as := [(.int (x2 - (I 84 x1.toNatClampNeg)))]) (f' := (22, [some (.ref 62), some (.int x1), some (.int x2), some (.int x3)], [(.int 3)])) rfl (tX12_plain (d + 0) (x2 - (I 84 x1.toNatClampNeg)) I J rv sp rr w nw g151 hg151) (fun v h hq => ?_)
    obtain ⟨rfl, rfl⟩ := hq
    refine mm_T.seg (f' := (23, [some (.ref 62), some (.int x1), some (.int x2), some (.int x3)], [(.int (3 - g151))])) (h' := (107, I, J, mm_rf rv sp rr w nw)) 1 rfl ?_
    cases e
    exact mm_T.ret rfl ⟨rfl, rfl⟩
  · rw [if_neg h1000] at e
    refine mm_T.seg (f' := (16, [some (.ref 62), some (.int x1), some (.int x2), some (.int x3)], [(.ref 84), (.int x2), (.int 9)])) (h' := (107, I, J, mm_rf rv sp rr w nw)) 4 rfl ?_
    refine mm_T.seg (f' := (17, [some (.ref 62), some (.int x1), some (.int x2), some (.int x3)], [(.int x1), (.ref 84), (.int x2), (.int 9)])) (h' := (107, I, J, mm_rf rv sp rr w nw)) 1 rfl ?_
    by_cases h1002 : x1 < 0 ∨ 28 ≤ x1.toNatClampNeg
    · rw [if_pos h1002] at e; cases e
    rw [if_neg h1002] at e
    refine mm_T.guard (y := ((18, [some (.ref 62), some (.int x1), some (.int x2), some (.int x3)], [(.int (I 84 x1.toNatClampNeg)), (.int x2), (.int 9)]), (107, I, J, mm_rf rv sp rr w nw))) rfl h1002 ?_
    refine mm_T.seg (f' := (19, [some (.ref 62), some (.int x1), some (.int x2), some (.int x3)], [(.int (x2 - (I 84 x1.toNatClampNeg))), (.int 9)])) (h' := (107, I, J, mm_rf rv sp rr w nw)) 1 rfl ?_
    obtain ⟨g152, hg152⟩ : ∃ z, fX12_plain (x2 - (I 84 x1.toNatClampNeg)) = z := ⟨_, rfl⟩
    try rw [hg152] at e
    refine mm_T.call (t := 239) (as := [(.int (x2 - (I 84 x1.toNatClampNeg)))]) (f' := (22, [some (.ref 62), some (.int x1), some (.int x2), some (.int x3)], [(.int 9)])) rfl (tX12_plain (d + 0) (x2 - (I 84 x1.toNatClampNeg)) I J rv sp rr w nw g152 hg152) (fun v h hq => ?_)
    obtain ⟨rfl, rfl⟩ := hq
    refine mm_T.seg (f' := (23, [some (.ref 62), some (.int x1), some (.int x2), some (.int x3)], [(.int (9 - g152))])) (h' := (107, I, J, mm_rf rv sp rr w nw)) 1 rfl ?_
    cases e
    exact mm_T.ret rfl ⟨rfl, rfl⟩
set_option maxRecDepth 100000 in
set_option maxHeartbeats 4000000 in
theorem tlX12_isRest_L6 (d : Nat) (Q : Option Value → mm_H → Prop) : ∀ (n : Nat) (y1 : Int32) (y2 : Int32) (y3 : Int32) (y4 : Int32) (y5 : Int32) (y6 : Int32) (y7 : Int32) (y8 : Int32) (I : Nat → Nat → Int32) (J : Nat → Nat → Int64) (rv sp rr w nw : Nat), ∀ (out : Int32), fX12_isRest_L6 n y1 y2 y3 y4 y5 y6 y7 y8 I = some out → mm_T none (d + 2) 305 (108, [none, none, none, none, none, none, none, some (.int out), none], []) (107, I, J, mm_rf rv sp rr w nw) Q → mm_T none (d + 2) 305 (6, [some (.ref 62), some (.int y1), some (.int y2), some (.int y3), some (.int y4), some (.int y5), some (.int y6), some (.int y7), some (.int y8)], []) (107, I, J, mm_rf rv sp rr w nw) Q := by
  intro n
  induction n with
  | zero =>
    intro y1 y2 y3 y4 y5 y6 y7 y8 I J rv sp rr w nw out e k
    rw [fX12_isRest_L6] at e; cases e
  | succ n ih =>
    intro y1 y2 y3 y4 y5 y6 y7 y8 I J rv sp rr w nw out e k
    rw [fX12_isRest_L6] at e
    refine mm_T.seg (f' := (12, [some (.ref 62), some (.int y1), some (.int y2), some (.int y3), some (.int y4), some (.int y5), some (.int y6), some (.int y7), some (.int y8)], [(.int (I 62 46)), (.int y8)])) (h' := (107, I, J, mm_rf rv sp rr w nw)) 3 rfl ?_
    refine mm_T.br (c := y8 < (I 62 46)) (a := ((15, [some (.ref 62), some (.int y1), some (.int y2), some (.int y3), some (.int y4), some (.int y5), some (.int y6), some (.int y7), some (.int y8)], []), (107, I, J, mm_rf rv sp rr w nw))) (b := ((108, [some (.ref 62), some (.int y1), some (.int y2), some (.int y3), some (.int y4), some (.int y5), some (.int y6), some (.int y7), some (.int y8)], []), (107, I, J, mm_rf rv sp rr w nw))) rfl (fun h1020 => ?_) (fun h1020 => ?_)
    · rw [if_pos h1020] at e
      refine mm_T.seg (f' := (22, [some (.ref 62), some (.int y1), some (.int y2), some (.int y3), some (.int y4), some (.int y5), some (.int y6), some (.int y7), some (.int y8)], [(.int 1), (.int ((y2 >>> (y8 &&& 31)) &&& 1))])) (h' := (107, I, J, mm_rf rv sp rr w nw)) 6 rfl ?_
      refine mm_T.br (c := ((y2 >>> (y8 &&& 31)) &&& 1) = 1) (a := ((25, [some (.ref 62), some (.int y1), some (.int y2), some (.int y3), some (.int y4), some (.int y5), some (.int y6), some (.int y7), some (.int y8)], []), (107, I, J, mm_rf rv sp rr w nw))) (b := ((58, [some (.ref 62), some (.int y1), some (.int y2), some (.int y3), some (.int y4), some (.int y5), some (.int y6), some (.int y7), some (.int y8)], []), (107, I, J, mm_rf rv sp rr w nw))) rfl (fun h1021 => ?_) (fun h1021 => ?_)
      · rw [if_pos h1021] at e
        refine mm_T.seg (f' := (27, [some (.ref 62), some (.int y1), some (.int y2), some (.int y3), some (.int y4), some (.int y5), some (.int y6), some (.int y7), some (.int y8)], [(.int y7)])) (h' := (107, I, J, mm_rf rv sp rr w nw)) 1 rfl ?_
        refine mm_T.br (c := y7 = 0) (a := ((55, [some (.ref 62), some (.int y1), some (.int y2), some (.int y3), some (.int y4), some (.int y5), some (.int y6), some (.int y7), some (.int y8)], []), (107, I, J, mm_rf rv sp rr w nw))) (b := ((30, [some (.ref 62), some (.int y1), some (.int y2), some (.int y3), some (.int y4), some (.int y5), some (.int y6), some (.int y7), some (.int y8)], []), (107, I, J, mm_rf rv sp rr w nw))) rfl (fun h1022 => ?_) (fun h1022 => ?_)
        · rw [if_pos h1022] at e
          refine mm_T.seg (f' := (66, [some (.ref 62), some (.int y1), some (.int y2), some (.int y3), some (.int y4), some (.int y5), some (.int y6), some (.int 0), some (.int y8)], [(.int 1), (.int ((y4 >>> (y8 &&& 31)) &&& 1))])) (h' := (107, I, J, mm_rf rv sp rr w nw)) 8 rfl ?_
          refine mm_T.br (c := ((y4 >>> (y8 &&& 31)) &&& 1) = 1) (a := ((69, [some (.ref 62), some (.int y1), some (.int y2), some (.int y3), some (.int y4), some (.int y5), some (.int y6), some (.int 0), some (.int y8)], []), (107, I, J, mm_rf rv sp rr w nw))) (b := ((102, [some (.ref 62), some (.int y1), some (.int y2), some (.int y3), some (.int y4), some (.int y5), some (.int y6), some (.int 0), some (.int y8)], []), (107, I, J, mm_rf rv sp rr w nw))) rfl (fun h1023 => ?_) (fun h1023 => ?_)
          · rw [if_pos h1023] at e
            refine mm_T.seg (f' := (6, [some (.ref 62), some (.int y1), some (.int y2), some (.int y3), some (.int y4), some (.int y5), some (.int y6), some (.int 0), some (.int (y8 + 1))], [])) (h' := (107, I, J, mm_rf rv sp rr w nw)) 6 rfl ?_
            refine mm_T.mask [true, true, true, true, true, true, true, true, true] ?_
            exact ih y1 y2 y3 y4 y5 y6 0 (y8 + 1) I J rv sp rr w nw out e k
          · rw [if_neg h1023] at e
            refine mm_T.seg (f' := (6, [some (.ref 62), some (.int y1), some (.int y2), some (.int y3), some (.int y4), some (.int y5), some (.int y6), some (.int 0), some (.int (y8 + 1))], [])) (h' := (107, I, J, mm_rf rv sp rr w nw)) 2 rfl ?_
            refine mm_T.mask [true, true, true, true, true, true, true, true, true] ?_
            exact ih y1 y2 y3 y4 y5 y6 0 (y8 + 1) I J rv sp rr w nw out e k
        · rw [if_neg h1022] at e
          refine mm_T.seg (f' := (36, [some (.ref 62), some (.int y1), some (.int y2), some (.int y3), some (.int y4), some (.int y5), some (.int y6), some (.int y7), some (.int y8)], [(.int y6), (.int y8), (.int y1), (.ref 62)])) (h' := (107, I, J, mm_rf rv sp rr w nw)) 4 rfl ?_
          obtain ⟨o1024, eo1024, e⟩ := mm_bind e
          refine mm_T.call (t := 304) (as := [(.ref 62), (.int y1), (.int y8), (.int y6)]) (f' := (39, [some (.ref 62), some (.int y1), some (.int y2), some (.int y3), some (.int y4), some (.int y5), some (.int y6), some (.int y7), some (.int y8)], [])) rfl (tX12_guestWorth (d + 0) y1 y8 y6 I J rv sp rr w nw o1024 eo1024) (fun v h hq => ?_)
          obtain ⟨rfl, rfl⟩ := hq
          refine mm_T.seg (f' := (45, [some (.ref 62), some (.int y1), some (.int y2), some (.int y3), some (.int y4), some (.int y5), some (.int y6), some (.int y7), some (.int y8)], [(.int y6), (.int y5), (.int y1), (.ref 62), (.int o1024)])) (h' := (107, I, J, mm_rf rv sp rr w nw)) 4 rfl ?_
          obtain ⟨o1025, eo1025, e⟩ := mm_bind e
          refine mm_T.call (t := 304) (as := [(.ref 62), (.int y1), (.int y5), (.int y6)]) (f' := (48, [some (.ref 62), some (.int y1), some (.int y2), some (.int y3), some (.int y4), some (.int y5), some (.int y6), some (.int y7), some (.int y8)], [(.int o1024)])) rfl (tX12_guestWorth (d + 0) y1 y5 y6 I J rv sp rr w nw o1025 eo1025) (fun v h hq => ?_)
          obtain ⟨rfl, rfl⟩ := hq
          refine mm_T.br (c := o1025 < o1024) (a := ((55, [some (.ref 62), some (.int y1), some (.int y2), some (.int y3), some (.int y4), some (.int y5), some (.int y6), some (.int y7), some (.int y8)], []), (107, I, J, mm_rf rv sp rr w nw))) (b := ((51, [some (.ref 62), some (.int y1), some (.int y2), some (.int y3), some (.int y4), some (.int y5), some (.int y6), some (.int y7), some (.int y8)], []), (107, I, J, mm_rf rv sp rr w nw))) rfl (fun h1026 => ?_) (fun h1026 => ?_)
          · rw [if_pos h1026] at e
            refine mm_T.seg (f' := (66, [some (.ref 62), some (.int y1), some (.int y2), some (.int y3), some (.int y4), some (.int y5), some (.int y6), some (.int 0), some (.int y8)], [(.int 1), (.int ((y4 >>> (y8 &&& 31)) &&& 1))])) (h' := (107, I, J, mm_rf rv sp rr w nw)) 8 rfl ?_
            refine mm_T.br (c := ((y4 >>> (y8 &&& 31)) &&& 1) = 1) (a := ((69, [some (.ref 62), some (.int y1), some (.int y2), some (.int y3), some (.int y4), some (.int y5), some (.int y6), some (.int 0), some (.int y8)], []), (107, I, J, mm_rf rv sp rr w nw))) (b := ((102, [some (.ref 62), some (.int y1), some (.int y2), some (.int y3), some (.int y4), some (.int y5), some (.int y6), some (.int 0), some (.int y8)], []), (107, I, J, mm_rf rv sp rr w nw))) rfl (fun h1027 => ?_) (fun h1027 => ?_)
            · rw [if_pos h1027] at e
              refine mm_T.seg (f' := (6, [some (.ref 62), some (.int y1), some (.int y2), some (.int y3), some (.int y4), some (.int y5), some (.int y6), some (.int 0), some (.int (y8 + 1))], [])) (h' := (107, I, J, mm_rf rv sp rr w nw)) 6 rfl ?_
              refine mm_T.mask [true, true, true, true, true, true, true, true, true] ?_
              exact ih y1 y2 y3 y4 y5 y6 0 (y8 + 1) I J rv sp rr w nw out e k
            · rw [if_neg h1027] at e
              refine mm_T.seg (f' := (6, [some (.ref 62), some (.int y1), some (.int y2), some (.int y3), some (.int y4), some (.int y5), some (.int y6), some (.int 0), some (.int (y8 + 1))], [])) (h' := (107, I, J, mm_rf rv sp rr w nw)) 2 rfl ?_
              refine mm_T.mask [true, true, true, true, true, true, true, true, true] ?_
              exact ih y1 y2 y3 y4 y5 y6 0 (y8 + 1) I J rv sp rr w nw out e k
          · rw [if_neg h1026] at e
            refine mm_T.seg (f' := (66, [some (.ref 62), some (.int y1), some (.int y2), some (.int y3), some (.int y4), some (.int y5), some (.int y6), some (.int 1), some (.int y8)], [(.int 1), (.int ((y4 >>> (y8 &&& 31)) &&& 1))])) (h' := (107, I, J, mm_rf rv sp rr w nw)) 9 rfl ?_
            refine mm_T.br (c := ((y4 >>> (y8 &&& 31)) &&& 1) = 1) (a := ((69, [some (.ref 62), some (.int y1), some (.int y2), some (.int y3), some (.int y4), some (.int y5), some (.int y6), some (.int 1), some (.int y8)], []), (107, I, J, mm_rf rv sp rr w nw))) (b := ((102, [some (.ref 62), some (.int y1), some (.int y2), some (.int y3), some (.int y4), some (.int y5), some (.int y6), some (.int 1), some (.int y8)], []), (107, I, J, mm_rf rv sp rr w nw))) rfl (fun h1028 => ?_) (fun h1028 => ?_)
            · rw [if_pos h1028] at e
              refine mm_T.seg (f' := (80, [some (.ref 62), some (.int y1), some (.int y2), some (.int y3), some (.int y4), some (.int y5), some (.int y6), some (.int 1), some (.int y8)], [(.int y5), (.int y8), (.int y3), (.ref 62)])) (h' := (107, I, J, mm_rf rv sp rr w nw)) 6 rfl ?_
              obtain ⟨o1029, eo1029, e⟩ := mm_bind e
              refine mm_T.call (t := 304) (as := [(.ref 62), (.int y3), (.int y8), (.int y5)]) (f' := (83, [some (.ref 62), some (.int y1), some (.int y2), some (.int y3), some (.int y4), some (.int y5), some (.int y6), some (.int 1), some (.int y8)], [])) rfl (tX12_guestWorth (d + 0) y3 y8 y5 I J rv sp rr w nw o1029 eo1029) (fun v h hq => ?_)
              obtain ⟨rfl, rfl⟩ := hq
              refine mm_T.seg (f' := (89, [some (.ref 62), some (.int y1), some (.int y2), some (.int y3), some (.int y4), some (.int y5), some (.int y6), some (.int 1), some (.int y8)], [(.int y5), (.int y6), (.int y3), (.ref 62), (.int o1029)])) (h' := (107, I, J, mm_rf rv sp rr w nw)) 4 rfl ?_
              obtain ⟨o1030, eo1030, e⟩ := mm_bind e
              refine mm_T.call (t := 304) (as := [(.ref 62), (.int y3), (.int y6), (.int y5)]) (f' := (92, [some (.ref 62), some (.int y1), some (.int y2), some (.int y3), some (.int y4), some (.int y5), some (.int y6), some (.int 1), some (.int y8)], [(.int o1029)])) rfl (tX12_guestWorth (d + 0) y3 y6 y5 I J rv sp rr w nw o1030 eo1030) (fun v h hq => ?_)
              obtain ⟨rfl, rfl⟩ := hq
              refine mm_T.br (c := o1030 < o1029) (a := ((99, [some (.ref 62), some (.int y1), some (.int y2), some (.int y3), some (.int y4), some (.int y5), some (.int y6), some (.int 1), some (.int y8)], []), (107, I, J, mm_rf rv sp rr w nw))) (b := ((95, [some (.ref 62), some (.int y1), some (.int y2), some (.int y3), some (.int y4), some (.int y5), some (.int y6), some (.int 1), some (.int y8)], []), (107, I, J, mm_rf rv sp rr w nw))) rfl (fun h1031 => ?_) (fun h1031 => ?_)
              · rw [if_pos h1031] at e
                refine mm_T.seg (f' := (6, [some (.ref 62), some (.int y1), some (.int y2), some (.int y3), some (.int y4), some (.int y5), some (.int y6), some (.int 0), some (.int (y8 + 1))], [])) (h' := (107, I, J, mm_rf rv sp rr w nw)) 4 rfl ?_
                refine mm_T.mask [true, true, true, true, true, true, true, true, true] ?_
                exact ih y1 y2 y3 y4 y5 y6 0 (y8 + 1) I J rv sp rr w nw out e k
              · rw [if_neg h1031] at e
                refine mm_T.seg (f' := (6, [some (.ref 62), some (.int y1), some (.int y2), some (.int y3), some (.int y4), some (.int y5), some (.int y6), some (.int 1), some (.int (y8 + 1))], [])) (h' := (107, I, J, mm_rf rv sp rr w nw)) 5 rfl ?_
                refine mm_T.mask [true, true, true, true, true, true, true, true, true] ?_
                exact ih y1 y2 y3 y4 y5 y6 1 (y8 + 1) I J rv sp rr w nw out e k
            · rw [if_neg h1028] at e
              refine mm_T.seg (f' := (6, [some (.ref 62), some (.int y1), some (.int y2), some (.int y3), some (.int y4), some (.int y5), some (.int y6), some (.int 1), some (.int (y8 + 1))], [])) (h' := (107, I, J, mm_rf rv sp rr w nw)) 2 rfl ?_
              refine mm_T.mask [true, true, true, true, true, true, true, true, true] ?_
              exact ih y1 y2 y3 y4 y5 y6 1 (y8 + 1) I J rv sp rr w nw out e k
      · rw [if_neg h1021] at e
        refine mm_T.seg (f' := (66, [some (.ref 62), some (.int y1), some (.int y2), some (.int y3), some (.int y4), some (.int y5), some (.int y6), some (.int y7), some (.int y8)], [(.int 1), (.int ((y4 >>> (y8 &&& 31)) &&& 1))])) (h' := (107, I, J, mm_rf rv sp rr w nw)) 6 rfl ?_
        refine mm_T.br (c := ((y4 >>> (y8 &&& 31)) &&& 1) = 1) (a := ((69, [some (.ref 62), some (.int y1), some (.int y2), some (.int y3), some (.int y4), some (.int y5), some (.int y6), some (.int y7), some (.int y8)], []), (107, I, J, mm_rf rv sp rr w nw))) (b := ((102, [some (.ref 62), some (.int y1), some (.int y2), some (.int y3), some (.int y4), some (.int y5), some (.int y6), some (.int y7), some (.int y8)], []), (107, I, J, mm_rf rv sp rr w nw))) rfl (fun h1032 => ?_) (fun h1032 => ?_)
        · rw [if_pos h1032] at e
          refine mm_T.seg (f' := (71, [some (.ref 62), some (.int y1), some (.int y2), some (.int y3), some (.int y4), some (.int y5), some (.int y6), some (.int y7), some (.int y8)], [(.int y7)])) (h' := (107, I, J, mm_rf rv sp rr w nw)) 1 rfl ?_
          refine mm_T.br (c := y7 = 0) (a := ((99, [some (.ref 62), some (.int y1), some (.int y2), some (.int y3), some (.int y4), some (.int y5), some (.int y6), some (.int y7), some (.int y8)], []), (107, I, J, mm_rf rv sp rr w nw))) (b := ((74, [some (.ref 62), some (.int y1), some (.int y2), some (.int y3), some (.int y4), some (.int y5), some (.int y6), some (.int y7), some (.int y8)], []), (107, I, J, mm_rf rv sp rr w nw))) rfl (fun h1033 => ?_) (fun h1033 => ?_)
          · rw [if_pos h1033] at e
            refine mm_T.seg (f' := (6, [some (.ref 62), some (.int y1), some (.int y2), some (.int y3), some (.int y4), some (.int y5), some (.int y6), some (.int 0), some (.int (y8 + 1))], [])) (h' := (107, I, J, mm_rf rv sp rr w nw)) 4 rfl ?_
            refine mm_T.mask [true, true, true, true, true, true, true, true, true] ?_
            exact ih y1 y2 y3 y4 y5 y6 0 (y8 + 1) I J rv sp rr w nw out e k
          · rw [if_neg h1033] at e
            refine mm_T.seg (f' := (80, [some (.ref 62), some (.int y1), some (.int y2), some (.int y3), some (.int y4), some (.int y5), some (.int y6), some (.int y7), some (.int y8)], [(.int y5), (.int y8), (.int y3), (.ref 62)])) (h' := (107, I, J, mm_rf rv sp rr w nw)) 4 rfl ?_
            obtain ⟨o1034, eo1034, e⟩ := mm_bind e
            refine mm_T.call (t := 304) (as := [(.ref 62), (.int y3), (.int y8), (.int y5)]) (f' := (83, [some (.ref 62), some (.int y1), some (.int y2), some (.int y3), some (.int y4), some (.int y5), some (.int y6), some (.int y7), some (.int y8)], [])) rfl (tX12_guestWorth (d + 0) y3 y8 y5 I J rv sp rr w nw o1034 eo1034) (fun v h hq => ?_)
            obtain ⟨rfl, rfl⟩ := hq
            refine mm_T.seg (f' := (89, [some (.ref 62), some (.int y1), some (.int y2), some (.int y3), some (.int y4), some (.int y5), some (.int y6), some (.int y7), some (.int y8)], [(.int y5), (.int y6), (.int y3), (.ref 62), (.int o1034)])) (h' := (107, I, J, mm_rf rv sp rr w nw)) 4 rfl ?_
            obtain ⟨o1035, eo1035, e⟩ := mm_bind e
            refine mm_T.call (t := 304) (as := [(.ref 62), (.int y3), (.int y6), (.int y5)]) (f' := (92, [some (.ref 62), some (.int y1), some (.int y2), some (.int y3), some (.int y4), some (.int y5), some (.int y6), some (.int y7), some (.int y8)], [(.int o1034)])) rfl (tX12_guestWorth (d + 0) y3 y6 y5 I J rv sp rr w nw o1035 eo1035) (fun v h hq => ?_)
            obtain ⟨rfl, rfl⟩ := hq
            refine mm_T.br (c := o1035 < o1034) (a := ((99, [some (.ref 62), some (.int y1), some (.int y2), some (.int y3), some (.int y4), some (.int y5), some (.int y6), some (.int y7), some (.int y8)], []), (107, I, J, mm_rf rv sp rr w nw))) (b := ((95, [some (.ref 62), some (.int y1), some (.int y2), some (.int y3), some (.int y4), some (.int y5), some (.int y6), some (.int y7), some (.int y8)], []), (107, I, J, mm_rf rv sp rr w nw))) rfl (fun h1036 => ?_) (fun h1036 => ?_)
            · rw [if_pos h1036] at e
              refine mm_T.seg (f' := (6, [some (.ref 62), some (.int y1), some (.int y2), some (.int y3), some (.int y4), some (.int y5), some (.int y6), some (.int 0), some (.int (y8 + 1))], [])) (h' := (107, I, J, mm_rf rv sp rr w nw)) 4 rfl ?_
              refine mm_T.mask [true, true, true, true, true, true, true, true, true] ?_
              exact ih y1 y2 y3 y4 y5 y6 0 (y8 + 1) I J rv sp rr w nw out e k
            · rw [if_neg h1036] at e
              refine mm_T.seg (f' := (6, [some (.ref 62), some (.int y1), some (.int y2), some (.int y3), some (.int y4), some (.int y5), some (.int y6), some (.int 1), some (.int (y8 + 1))], [])) (h' := (107, I, J, mm_rf rv sp rr w nw)) 5 rfl ?_
              refine mm_T.mask [true, true, true, true, true, true, true, true, true] ?_
              exact ih y1 y2 y3 y4 y5 y6 1 (y8 + 1) I J rv sp rr w nw out e k
        · rw [if_neg h1032] at e
          refine mm_T.seg (f' := (6, [some (.ref 62), some (.int y1), some (.int y2), some (.int y3), some (.int y4), some (.int y5), some (.int y6), some (.int y7), some (.int (y8 + 1))], [])) (h' := (107, I, J, mm_rf rv sp rr w nw)) 2 rfl ?_
          refine mm_T.mask [true, true, true, true, true, true, true, true, true] ?_
          exact ih y1 y2 y3 y4 y5 y6 y7 (y8 + 1) I J rv sp rr w nw out e k
    · rw [if_neg h1020] at e
      cases e
      refine mm_T.mask [false, false, false, false, false, false, false, true, false] ?_
      exact k
set_option maxRecDepth 100000 in
set_option maxHeartbeats 4000000 in
theorem tX12_isRest (d n : Nat) (x1 : Int32) (x2 : Int32) (x3 : Int32) (x4 : Int32) (x5 : Int32) (x6 : Int32) (I : Nat → Nat → Int32) (J : Nat → Nat → Int64) (rv sp rr w nw : Nat) (out : Int32) (e : fX12_isRest n x1 x2 x3 x4 x5 x6 I = some out) : mm_T none (d + 2) 305 (mm_ent 305 [(.ref 62), (.int x1), (.int x2), (.int x3), (.int x4), (.int x5), (.int x6)]) (107, I, J, mm_rf rv sp rr w nw) (fun v h => v = some (.int out) ∧ h = (107, I, J, mm_rf rv sp rr w nw)) := by
  unfold fX12_isRest at e
  refine mm_T.seg (f' := (6, [some (.ref 62), some (.int x1), some (.int x2), some (.int x3), some (.int x4), some (.int x5), some (.int x6), some (.int 1), some (.int 0)], [])) (h' := (107, I, J, mm_rf rv sp rr w nw)) 4 rfl ?_
  refine mm_T.mask [true, true, true, true, true, true, true, true, true] ?_
  obtain ⟨o1037, eo1037, e⟩ := mm_bind e
  refine tlX12_isRest_L6 d _ n x1 x2 x3 x4 x5 x6 1 0 I J rv sp rr w nw o1037 eo1037 ?_
  refine mm_T.seg (f' := (110, [none, none, none, none, none, none, none, some (.int o1037), none], [(.int o1037)])) (h' := (107, I, J, mm_rf rv sp rr w nw)) 1 rfl ?_
  by_cases h1038 : o1037 = 0 ∨ o1037 = 1
  case neg => rw [if_neg h1038] at e; cases e
  rw [if_pos h1038] at e
  cases e
  first | exact mm_T.retZ (v := some (.int o1037)) rfl h1038 ⟨rfl, rfl⟩ | exact mm_T.retZ (v := some (.int out)) rfl h1038 ⟨rfl, rfl⟩
set_option maxRecDepth 100000 in
set_option maxHeartbeats 4000000 in
theorem tlX12_guests_L70 (d : Nat) (Q : Option Value → mm_H → Prop) : ∀ (n : Nat) (y1 : Int32) (y2 : Int32) (y3 : Int32) (y4 : Int32) (y5 : Int32) (y6 : Int32) (y7 : Int32) (I : Nat → Nat → Int32) (J : Nat → Nat → Int64) (rv sp rr w nw : Nat), ∀ (out : Int32 × (Nat → Nat → Int32)), fX12_guests_L70 n y1 y2 y3 y4 y5 y6 y7 I = some out → mm_T none (d + 6) 306 (152, [some (.ref 62), some (.int y1), some (.int y2), some (.int y3), some (.int y4), some (.int out.1), some (.int y6), none], []) (107, out.2, J, mm_rf rv sp rr w nw) Q → mm_T none (d + 6) 306 (70, [some (.ref 62), some (.int y1), some (.int y2), some (.int y3), some (.int y4), some (.int y5), some (.int y6), some (.int y7)], []) (107, I, J, mm_rf rv sp rr w nw) Q := by
  intro n
  induction n with
  | zero =>
    intro y1 y2 y3 y4 y5 y6 y7 I J rv sp rr w nw out e k
    rw [fX12_guests_L70] at e; cases e
  | succ n ih =>
    intro y1 y2 y3 y4 y5 y6 y7 I J rv sp rr w nw out e k
    rw [fX12_guests_L70] at e
    refine mm_T.seg (f' := (76, [some (.ref 62), some (.int y1), some (.int y2), some (.int y3), some (.int y4), some (.int y5), some (.int y6), some (.int y7)], [(.int (I 62 46)), (.int y7)])) (h' := (107, I, J, mm_rf rv sp rr w nw)) 3 rfl ?_
    refine mm_T.br (c := y7 < (I 62 46)) (a := ((79, [some (.ref 62), some (.int y1), some (.int y2), some (.int y3), some (.int y4), some (.int y5), some (.int y6), some (.int y7)], []), (107, I, J, mm_rf rv sp rr w nw))) (b := ((152, [some (.ref 62), some (.int y1), some (.int y2), some (.int y3), some (.int y4), some (.int y5), some (.int y6), some (.int y7)], []), (107, I, J, mm_rf rv sp rr w nw))) rfl (fun h1049 => ?_) (fun h1049 => ?_)
    · rw [if_pos h1049] at e
      refine mm_T.seg (f' := (85, [some (.ref 62), some (.int y1), some (.int y2), some (.int y3), some (.int y4), some (.int y5), some (.int y6), some (.int y7)], [(.int ((y3 >>> (y6 &&& 31)) &&& 1))])) (h' := (107, I, J, mm_rf rv sp rr w nw)) 5 rfl ?_
      refine mm_T.br (c := ((y3 >>> (y6 &&& 31)) &&& 1) = 0) (a := ((146, [some (.ref 62), some (.int y1), some (.int y2), some (.int y3), some (.int y4), some (.int y5), some (.int y6), some (.int y7)], []), (107, I, J, mm_rf rv sp rr w nw))) (b := ((88, [some (.ref 62), some (.int y1), some (.int y2), some (.int y3), some (.int y4), some (.int y5), some (.int y6), some (.int y7)], []), (107, I, J, mm_rf rv sp rr w nw))) rfl (fun h1050 => ?_) (fun h1050 => ?_)
      · rw [if_pos h1050] at e
        refine mm_T.seg (f' := (70, [some (.ref 62), some (.int y1), some (.int y2), some (.int y3), some (.int y4), some (.int y5), some (.int y6), some (.int (y7 + 1))], [])) (h' := (107, I, J, mm_rf rv sp rr w nw)) 2 rfl ?_
        refine mm_T.mask [true, true, true, true, true, true, true, true] ?_
        exact ih y1 y2 y3 y4 y5 y6 (y7 + 1) I J rv sp rr w nw out e k
      · rw [if_neg h1050] at e
        refine mm_T.seg (f' := (95, [some (.ref 62), some (.int y1), some (.int y2), some (.int y3), some (.int y4), some (.int y5), some (.int y6), some (.int y7)], [(.int ((y4 >>> (y7 &&& 31)) &&& 1))])) (h' := (107, I, J, mm_rf rv sp rr w nw)) 5 rfl ?_
        refine mm_T.br (c := ((y4 >>> (y7 &&& 31)) &&& 1) = 0) (a := ((146, [some (.ref 62), some (.int y1), some (.int y2), some (.int y3), some (.int y4), some (.int y5), some (.int y6), some (.int y7)], []), (107, I, J, mm_rf rv sp rr w nw))) (b := ((98, [some (.ref 62), some (.int y1), some (.int y2), some (.int y3), some (.int y4), some (.int y5), some (.int y6), some (.int y7)], []), (107, I, J, mm_rf rv sp rr w nw))) rfl (fun h1051 => ?_) (fun h1051 => ?_)
        · rw [if_pos h1051] at e
          refine mm_T.seg (f' := (70, [some (.ref 62), some (.int y1), some (.int y2), some (.int y3), some (.int y4), some (.int y5), some (.int y6), some (.int (y7 + 1))], [])) (h' := (107, I, J, mm_rf rv sp rr w nw)) 2 rfl ?_
          refine mm_T.mask [true, true, true, true, true, true, true, true] ?_
          exact ih y1 y2 y3 y4 y5 y6 (y7 + 1) I J rv sp rr w nw out e k
        · rw [if_neg h1051] at e
          refine mm_T.seg (f' := (108, [some (.ref 62), some (.int y1), some (.int y2), some (.int y3), some (.int y4), some (.int y5), some (.int y6), some (.int y7)], [(.int y7), (.int y6), (.int y4), (.int y2), (.int y3), (.int y1), (.ref 62)])) (h' := (107, I, J, mm_rf rv sp rr w nw)) 7 rfl ?_
          obtain ⟨o1052, eo1052, e⟩ := mm_bind e
          refine mm_T.call (t := 305) (as := [(.ref 62), (.int y1), (.int y3), (.int y2), (.int y4), (.int y6), (.int y7)]) (f' := (111, [some (.ref 62), some (.int y1), some (.int y2), some (.int y3), some (.int y4), some (.int y5), some (.int y6), some (.int y7)], [])) rfl (tX12_isRest (d + 3) n y1 y3 y2 y4 y6 y7 I J rv sp rr w nw o1052 eo1052) (fun v h hq => ?_)
          obtain ⟨rfl, rfl⟩ := hq
          refine mm_T.br (c := o1052 = 0) (a := ((114, [some (.ref 62), some (.int y1), some (.int y2), some (.int y3), some (.int y4), some (.int y5), some (.int y6), some (.int y7)], []), (107, I, J, mm_rf rv sp rr w nw))) (b := ((117, [some (.ref 62), some (.int y1), some (.int y2), some (.int y3), some (.int y4), some (.int y5), some (.int y6), some (.int y7)], []), (107, I, J, mm_rf rv sp rr w nw))) rfl (fun h1053 => ?_) (fun h1053 => ?_)
          · rw [if_pos h1053] at e
            refine mm_T.seg (f' := (70, [some (.ref 62), some (.int y1), some (.int y2), some (.int y3), some (.int y4), some (.int y5), some (.int y6), some (.int (y7 + 1))], [])) (h' := (107, I, J, mm_rf rv sp rr w nw)) 3 rfl ?_
            refine mm_T.mask [true, true, true, true, true, true, true, true] ?_
            exact ih y1 y2 y3 y4 y5 y6 (y7 + 1) I J rv sp rr w nw out e k
          · rw [if_neg h1053] at e
            refine mm_T.seg (f' := (119, [some (.ref 62), some (.int y1), some (.int y2), some (.int y3), some (.int y4), some (.int y5), some (.int y6), some (.int y7)], [(.int y5)])) (h' := (107, I, J, mm_rf rv sp rr w nw)) 1 rfl ?_
            refine mm_T.br (c := y5 = 0) (a := ((122, [some (.ref 62), some (.int y1), some (.int y2), some (.int y3), some (.int y4), some (.int y5), some (.int y6), some (.int y7)], []), (107, I, J, mm_rf rv sp rr w nw))) (b := ((143, [some (.ref 62), some (.int y1), some (.int y2), some (.int y3), some (.int y4), some (.int y5), some (.int y6), some (.int y7)], []), (107, I, J, mm_rf rv sp rr w nw))) rfl (fun h1054 => ?_) (fun h1054 => ?_)
            · rw [if_pos h1054] at e
              refine mm_T.seg (f' := (126, [some (.ref 62), some (.int y1), some (.int y2), some (.int y3), some (.int y4), some (.int y5), some (.int y6), some (.int y7)], [(.ref 88)])) (h' := (107, I, J, mm_rf rv sp rr w nw)) 2 rfl ?_
              refine mm_T.seg (f' := (134, [some (.ref 62), some (.int y1), some (.int y2), some (.int y3), some (.int y4), some (.int y5), some (.int y6), some (.int y7)], [(.ref 88)])) (h' := (107, (mm_up I 88 0 y6), J, mm_rf rv sp rr w nw)) 5 rfl ?_
              refine mm_T.seg (f' := (70, [some (.ref 62), some (.int y1), some (.int y2), some (.int y3), some (.int y4), some (.int (y5 + 1)), some (.int y6), some (.int (y7 + 1))], [])) (h' := (107, (mm_up (mm_up (mm_up I 88 0 y6) 88 1 y7) 62 61 2), J, mm_rf rv sp rr w nw)) 9 rfl ?_
              refine mm_T.mask [true, true, true, true, true, true, true, true] ?_
              exact ih y1 y2 y3 y4 (y5 + 1) y6 (y7 + 1) (mm_up (mm_up (mm_up I 88 0 y6) 88 1 y7) 62 61 2) J rv sp rr w nw out e k
            · rw [if_neg h1054] at e
              refine mm_T.seg (f' := (70, [some (.ref 62), some (.int y1), some (.int y2), some (.int y3), some (.int y4), some (.int (y5 + 1)), some (.int y6), some (.int (y7 + 1))], [])) (h' := (107, I, J, mm_rf rv sp rr w nw)) 3 rfl ?_
              refine mm_T.mask [true, true, true, true, true, true, true, true] ?_
              exact ih y1 y2 y3 y4 (y5 + 1) y6 (y7 + 1) I J rv sp rr w nw out e k
    · rw [if_neg h1049] at e
      cases e
      refine mm_T.mask [true, true, true, true, true, true, true, false] ?_
      exact k
set_option maxRecDepth 100000 in
set_option maxHeartbeats 4000000 in
theorem tlX12_guests_L58 (d : Nat) (Q : Option Value → mm_H → Prop) : ∀ (n : Nat) (y1 : Int32) (y2 : Int32) (y3 : Int32) (y4 : Int32) (y5 : Int32) (y6 : Int32) (I : Nat → Nat → Int32) (J : Nat → Nat → Int64) (rv sp rr w nw : Nat), ∀ (out : Int32 × (Nat → Nat → Int32)), fX12_guests_L58 n y1 y2 y3 y4 y5 y6 I = some out → mm_T none (d + 6) 306 (158, [none, none, none, none, none, some (.int out.1), none, none], []) (107, out.2, J, mm_rf rv sp rr w nw) Q → mm_T none (d + 6) 306 (58, [some (.ref 62), some (.int y1), some (.int y2), some (.int y3), some (.int y4), some (.int y5), some (.int y6), none], []) (107, I, J, mm_rf rv sp rr w nw) Q := by
  intro n
  induction n with
  | zero =>
    intro y1 y2 y3 y4 y5 y6 I J rv sp rr w nw out e k
    rw [fX12_guests_L58] at e; cases e
  | succ n ih =>
    intro y1 y2 y3 y4 y5 y6 I J rv sp rr w nw out e k
    rw [fX12_guests_L58] at e
    refine mm_T.seg (f' := (64, [some (.ref 62), some (.int y1), some (.int y2), some (.int y3), some (.int y4), some (.int y5), some (.int y6), none], [(.int (I 62 46)), (.int y6)])) (h' := (107, I, J, mm_rf rv sp rr w nw)) 3 rfl ?_
    refine mm_T.br (c := y6 < (I 62 46)) (a := ((67, [some (.ref 62), some (.int y1), some (.int y2), some (.int y3), some (.int y4), some (.int y5), some (.int y6), none], []), (107, I, J, mm_rf rv sp rr w nw))) (b := ((158, [some (.ref 62), some (.int y1), some (.int y2), some (.int y3), some (.int y4), some (.int y5), some (.int y6), none], []), (107, I, J, mm_rf rv sp rr w nw))) rfl (fun h1048 => ?_) (fun h1048 => ?_)
    · rw [if_pos h1048] at e
      refine mm_T.seg (f' := (70, [some (.ref 62), some (.int y1), some (.int y2), some (.int y3), some (.int y4), some (.int y5), some (.int y6), some (.int 0)], [])) (h' := (107, I, J, mm_rf rv sp rr w nw)) 2 rfl ?_
      refine mm_T.mask [true, true, true, true, true, true, true, true] ?_
      obtain ⟨o1055, eo1055, e⟩ := mm_bind e
      refine tlX12_guests_L70 d _ n y1 y2 y3 y4 y5 y6 0 I J rv sp rr w nw o1055 eo1055 ?_
      refine mm_T.seg (f' := (58, [some (.ref 62), some (.int y1), some (.int y2), some (.int y3), some (.int y4), some (.int o1055.1), some (.int (y6 + 1)), none], [])) (h' := (107, o1055.2, J, mm_rf rv sp rr w nw)) 2 rfl ?_
      refine mm_T.mask [true, true, true, true, true, true, true, false] ?_
      exact ih y1 y2 y3 y4 o1055.1 (y6 + 1) o1055.2 J rv sp rr w nw out e k
    · rw [if_neg h1048] at e
      cases e
      refine mm_T.mask [false, false, false, false, false, true, false, false] ?_
      exact k
set_option maxRecDepth 100000 in
set_option maxHeartbeats 4000000 in
theorem tX12_guests (d n : Nat) (x1 : Int32) (x2 : Int32) (I : Nat → Nat → Int32) (J : Nat → Nat → Int64) (rv sp rr w nw : Nat) (out : Int32 × (Nat → Nat → Int32)) (e : fX12_guests n x1 x2 I = some out) : mm_T none (d + 6) 306 (mm_ent 306 [(.ref 62), (.int x1), (.int x2)]) (107, I, J, mm_rf rv sp rr w nw) (fun v h => v = some (.int out.1) ∧ h = (107, out.2, J, mm_rf rv sp rr w nw)) := by
  unfold fX12_guests at e
  refine mm_T.seg (f' := (7, [some (.ref 62), some (.int x1), some (.int x2), none, none, none, none, none], [(.int x1), (.ref 62)])) (h' := (107, (mm_up I 62 61 0), J, mm_rf rv sp rr w nw)) 5 rfl ?_
  obtain ⟨o1039, eo1039, e⟩ := mm_bind e
  refine mm_T.call (t := 253) (as := [(.ref 62), (.int x1)]) (f' := (10, [some (.ref 62), some (.int x1), some (.int x2), none, none, none, none, none], [])) rfl (tX12_isBoard (d + 4) x1 (mm_up I 62 61 0) J rv sp rr w nw o1039 eo1039) (fun v h hq => ?_)
  obtain ⟨rfl, rfl⟩ := hq
  refine mm_T.br (c := o1039 = 0) (a := ((26, [some (.ref 62), some (.int x1), some (.int x2), none, none, none, none, none], []), (107, (mm_up I 62 61 0), J, mm_rf rv sp rr w nw))) (b := ((13, [some (.ref 62), some (.int x1), some (.int x2), none, none, none, none, none], []), (107, (mm_up I 62 61 0), J, mm_rf rv sp rr w nw))) rfl (fun h1040 => ?_) (fun h1040 => ?_)
  · rw [if_pos h1040] at e
    refine mm_T.seg (f' := (27, [some (.ref 62), some (.int x1), some (.int x2), none, none, none, none, none], [(.int (-1))])) (h' := (107, (mm_up I 62 61 0), J, mm_rf rv sp rr w nw)) 1 rfl ?_
    cases e
    exact mm_T.ret rfl ⟨rfl, rfl⟩
  · rw [if_neg h1040] at e
    refine mm_T.seg (f' := (15, [some (.ref 62), some (.int x1), some (.int x2), none, none, none, none, none], [(.int x2), (.ref 62)])) (h' := (107, (mm_up I 62 61 0), J, mm_rf rv sp rr w nw)) 2 rfl ?_
    obtain ⟨o1041, eo1041, e⟩ := mm_bind e
    refine mm_T.call (t := 253) (as := [(.ref 62), (.int x2)]) (f' := (18, [some (.ref 62), some (.int x1), some (.int x2), none, none, none, none, none], [])) rfl (tX12_isBoard (d + 4) x2 (mm_up I 62 61 0) J rv sp rr w nw o1041 eo1041) (fun v h hq => ?_)
    obtain ⟨rfl, rfl⟩ := hq
    refine mm_T.br (c := o1041 = 0) (a := ((26, [some (.ref 62), some (.int x1), some (.int x2), none, none, none, none, none], []), (107, (mm_up I 62 61 0), J, mm_rf rv sp rr w nw))) (b := ((21, [some (.ref 62), some (.int x1), some (.int x2), none, none, none, none, none], []), (107, (mm_up I 62 61 0), J, mm_rf rv sp rr w nw))) rfl (fun h1042 => ?_) (fun h1042 => ?_)
    · rw [if_pos h1042] at e
      refine mm_T.seg (f' := (27, [some (.ref 62), some (.int x1), some (.int x2), none, none, none, none, none], [(.int (-1))])) (h' := (107, (mm_up I 62 61 0), J, mm_rf rv sp rr w nw)) 1 rfl ?_
      cases e
      exact mm_T.ret rfl ⟨rfl, rfl⟩
    · rw [if_neg h1042] at e
      refine mm_T.seg (f' := (23, [some (.ref 62), some (.int x1), some (.int x2), none, none, none, none, none], [(.int x2), (.int x1)])) (h' := (107, (mm_up I 62 61 0), J, mm_rf rv sp rr w nw)) 2 rfl ?_
      refine mm_T.br (c := x1 = x2) (a := ((26, [some (.ref 62), some (.int x1), some (.int x2), none, none, none, none, none], []), (107, (mm_up I 62 61 0), J, mm_rf rv sp rr w nw))) (b := ((28, [some (.ref 62), some (.int x1), some (.int x2), none, none, none, none, none], []), (107, (mm_up I 62 61 0), J, mm_rf rv sp rr w nw))) rfl (fun h1043 => ?_) (fun h1043 => ?_)
      · rw [if_pos h1043] at e
        refine mm_T.seg (f' := (27, [some (.ref 62), some (.int x1), some (.int x2), none, none, none, none, none], [(.int (-1))])) (h' := (107, (mm_up I 62 61 0), J, mm_rf rv sp rr w nw)) 1 rfl ?_
        cases e
        exact mm_T.ret rfl ⟨rfl, rfl⟩
      · rw [if_neg h1043] at e
        refine mm_T.seg (f' := (30, [some (.ref 62), some (.int x1), some (.int x2), none, none, none, none, none], [(.int x1), (.ref 62)])) (h' := (107, (mm_up I 62 61 0), J, mm_rf rv sp rr w nw)) 2 rfl ?_
        obtain ⟨o1044, eo1044, e⟩ := mm_bind e
        refine mm_T.call (t := 281) (as := [(.ref 62), (.int x1)]) (f' := (33, [some (.ref 62), some (.int x1), some (.int x2), none, none, none, none, none], [])) rfl (tX12_landingsOf (d + 0) n x1 (mm_up I 62 61 0) J rv sp rr w nw o1044 eo1044) (fun v h hq => ?_)
        obtain ⟨rfl, rfl⟩ := hq
        refine mm_T.seg (f' := (36, [some (.ref 62), some (.int x1), some (.int x2), some (.int o1044.1), none, none, none, none], [(.int x2), (.ref 62)])) (h' := (107, o1044.2, J, mm_rf rv sp rr w nw)) 3 rfl ?_
        obtain ⟨o1045, eo1045, e⟩ := mm_bind e
        refine mm_T.call (t := 281) (as := [(.ref 62), (.int x2)]) (f' := (39, [some (.ref 62), some (.int x1), some (.int x2), some (.int o1044.1), none, none, none, none], [])) rfl (tX12_landingsOf (d + 0) n x2 o1044.2 J rv sp rr w nw o1045 eo1045) (fun v h hq => ?_)
        obtain ⟨rfl, rfl⟩ := hq
        refine mm_T.seg (f' := (42, [some (.ref 62), some (.int x1), some (.int x2), some (.int o1044.1), some (.int o1045.1), none, none, none], [(.int o1044.1)])) (h' := (107, o1045.2, J, mm_rf rv sp rr w nw)) 2 rfl ?_
        refine mm_T.br (c := o1044.1 = 0) (a := ((50, [some (.ref 62), some (.int x1), some (.int x2), some (.int o1044.1), some (.int o1045.1), none, none, none], []), (107, o1045.2, J, mm_rf rv sp rr w nw))) (b := ((45, [some (.ref 62), some (.int x1), some (.int x2), some (.int o1044.1), some (.int o1045.1), none, none, none], []), (107, o1045.2, J, mm_rf rv sp rr w nw))) rfl (fun h1046 => ?_) (fun h1046 => ?_)
        · rw [if_pos h1046] at e
          refine mm_T.seg (f' := (51, [some (.ref 62), some (.int x1), some (.int x2), some (.int o1044.1), some (.int o1045.1), none, none, none], [(.int (-1))])) (h' := (107, o1045.2, J, mm_rf rv sp rr w nw)) 1 rfl ?_
          cases e
          exact mm_T.ret rfl ⟨rfl, rfl⟩
        · rw [if_neg h1046] at e
          refine mm_T.seg (f' := (47, [some (.ref 62), some (.int x1), some (.int x2), some (.int o1044.1), some (.int o1045.1), none, none, none], [(.int o1045.1)])) (h' := (107, o1045.2, J, mm_rf rv sp rr w nw)) 1 rfl ?_
          refine mm_T.br (c := o1045.1 = 0) (a := ((50, [some (.ref 62), some (.int x1), some (.int x2), some (.int o1044.1), some (.int o1045.1), none, none, none], []), (107, o1045.2, J, mm_rf rv sp rr w nw))) (b := ((52, [some (.ref 62), some (.int x1), some (.int x2), some (.int o1044.1), some (.int o1045.1), none, none, none], []), (107, o1045.2, J, mm_rf rv sp rr w nw))) rfl (fun h1047 => ?_) (fun h1047 => ?_)
          · rw [if_pos h1047] at e
            refine mm_T.seg (f' := (51, [some (.ref 62), some (.int x1), some (.int x2), some (.int o1044.1), some (.int o1045.1), none, none, none], [(.int (-1))])) (h' := (107, o1045.2, J, mm_rf rv sp rr w nw)) 1 rfl ?_
            cases e
            exact mm_T.ret rfl ⟨rfl, rfl⟩
          · rw [if_neg h1047] at e
            refine mm_T.seg (f' := (58, [some (.ref 62), some (.int x1), some (.int x2), some (.int o1044.1), some (.int o1045.1), some (.int 0), some (.int 0), none], [])) (h' := (107, o1045.2, J, mm_rf rv sp rr w nw)) 4 rfl ?_
            refine mm_T.mask [true, true, true, true, true, true, true, false] ?_
            obtain ⟨o1056, eo1056, e⟩ := mm_bind e
            refine tlX12_guests_L58 d _ n x1 x2 o1044.1 o1045.1 0 0 o1045.2 J rv sp rr w nw o1056 eo1056 ?_
            refine mm_T.seg (f' := (160, [none, none, none, none, none, some (.int o1056.1), none, none], [(.int o1056.1)])) (h' := (107, o1056.2, J, mm_rf rv sp rr w nw)) 1 rfl ?_
            cases e
            exact mm_T.ret rfl ⟨rfl, rfl⟩
set_option maxRecDepth 100000 in
set_option maxHeartbeats 4000000 in
theorem tlX12_singe_L16 (d : Nat) (Q : Option Value → mm_H → Prop) : ∀ (n : Nat) (y1 : Int32) (y2 : Int32) (I : Nat → Nat → Int32) (J : Nat → Nat → Int64) (rv sp rr w nw : Nat), ∀ (out : (Int32 ⊕ (Unit)) × (Nat → Nat → Int32)), fX12_singe_L16 n y1 y2 I = some out → (∀ (r : Int32) (s0 : Nat → Nat → Int32), out = (.inl r, s0) → Q (some (.int r)) (107, s0, J, mm_rf rv sp rr w nw)) → (∀ (y : Unit) (s0 : Nat → Nat → Int32), out = (.inr y, s0) → mm_T none (d + 4) 307 (56, [none, none, none, none], []) (107, s0, J, mm_rf rv sp rr w nw) Q) → mm_T none (d + 4) 307 (16, [some (.ref 62), some (.int y1), some (.int y2), none], []) (107, I, J, mm_rf rv sp rr w nw) Q := by
  intro n
  induction n with
  | zero =>
    intro y1 y2 I J rv sp rr w nw out e kr ke
    rw [fX12_singe_L16] at e; cases e
  | succ n ih =>
    intro y1 y2 I J rv sp rr w nw out e kr ke
    rw [fX12_singe_L16] at e
    refine mm_T.seg (f' := (19, [some (.ref 62), some (.int y1), some (.int y2), none], [(.int y1), (.ref 62), (.int y2)])) (h' := (107, I, J, mm_rf rv sp rr w nw)) 3 rfl ?_
    obtain ⟨o1060, eo1060, e⟩ := mm_bind e
    refine mm_T.call (t := 278) (as := [(.ref 62), (.int y1)]) (f' := (22, [some (.ref 62), some (.int y1), some (.int y2), none], [(.int y2)])) rfl (tX12_leftOf (d + 3) y1 I J rv sp rr w nw o1060 eo1060) (fun v h hq => ?_)
    obtain ⟨rfl, rfl⟩ := hq
    refine mm_T.br (c := o1060 < y2) (a := ((56, [some (.ref 62), some (.int y1), some (.int y2), none], []), (107, I, J, mm_rf rv sp rr w nw))) (b := ((25, [some (.ref 62), some (.int y1), some (.int y2), none], []), (107, I, J, mm_rf rv sp rr w nw))) rfl (fun h1061 => ?_) (fun h1061 => ?_)
    · rw [if_pos h1061] at e
      cases e
      refine mm_T.mask [false, false, false, false] ?_
      exact ke _ _ rfl
    · rw [if_neg h1061] at e
      refine mm_T.seg (f' := (30, [some (.ref 62), some (.int y1), some (.int y2), none], [(.int 1), (.int 1), (.int 0), (.int y1), (.ref 62)])) (h' := (107, I, J, mm_rf rv sp rr w nw)) 5 rfl ?_
      obtain ⟨o1062, eo1062, e⟩ := mm_bind e
      refine mm_T.call (t := 261) (as := [(.ref 62), (.int y1), (.int 0), (.int 1), (.int 1)]) (f' := (33, [some (.ref 62), some (.int y1), some (.int y2), none], [])) rfl (tX12_goStroke (d + 0) n y1 0 1 1 I J rv sp rr w nw o1062 eo1062) (fun v h hq => ?_)
      obtain ⟨rfl, rfl⟩ := hq
      refine mm_T.seg (f' := (38, [some (.ref 62), some (.int y1), some (.int y2), some (.int o1062.1)], [(.int 1), (.int (o1062.1 - o1062.1 / 2 * 2))])) (h' := (107, o1062.2, J, mm_rf rv sp rr w nw)) 5 rfl ?_
      refine mm_T.br (c := (o1062.1 - o1062.1 / 2 * 2) = 1) (a := ((41, [some (.ref 62), some (.int y1), some (.int y2), some (.int o1062.1)], []), (107, o1062.2, J, mm_rf rv sp rr w nw))) (b := ((43, [some (.ref 62), some (.int y1), some (.int y2), some (.int o1062.1)], []), (107, o1062.2, J, mm_rf rv sp rr w nw))) rfl (fun h1063 => ?_) (fun h1063 => ?_)
      · rw [if_pos h1063] at e
        refine mm_T.seg (f' := (42, [some (.ref 62), some (.int y1), some (.int y2), some (.int o1062.1)], [(.int (-1))])) (h' := (107, o1062.2, J, mm_rf rv sp rr w nw)) 1 rfl ?_
        cases e
        exact mm_T.ret rfl (kr _ _ rfl)
      · rw [if_neg h1063] at e
        refine mm_T.seg (f' := (45, [some (.ref 62), some (.int y1), some (.int y2), some (.int o1062.1)], [(.int 2), (.int o1062.1)])) (h' := (107, o1062.2, J, mm_rf rv sp rr w nw)) 2 rfl ?_
        refine mm_T.br (c := o1062.1 = 2) (a := ((48, [some (.ref 62), some (.int y1), some (.int y2), some (.int o1062.1)], []), (107, o1062.2, J, mm_rf rv sp rr w nw))) (b := ((50, [some (.ref 62), some (.int y1), some (.int y2), some (.int o1062.1)], []), (107, o1062.2, J, mm_rf rv sp rr w nw))) rfl (fun h1064 => ?_) (fun h1064 => ?_)
        · rw [if_pos h1064] at e
          refine mm_T.seg (f' := (49, [some (.ref 62), some (.int y1), some (.int y2), some (.int o1062.1)], [(.int y2)])) (h' := (107, o1062.2, J, mm_rf rv sp rr w nw)) 1 rfl ?_
          cases e
          exact mm_T.ret rfl (kr _ _ rfl)
        · rw [if_neg h1064] at e
          refine mm_T.seg (f' := (16, [some (.ref 62), some (.int y1), some (.int (y2 + 1)), some (.int o1062.1)], [])) (h' := (107, o1062.2, J, mm_rf rv sp rr w nw)) 2 rfl ?_
          refine mm_T.mask [true, true, true, false] ?_
          exact ih y1 (y2 + 1) o1062.2 J rv sp rr w nw out e kr ke
set_option maxRecDepth 100000 in
set_option maxHeartbeats 4000000 in
theorem tX12_singe (d n : Nat) (x1 : Int32) (I : Nat → Nat → Int32) (J : Nat → Nat → Int64) (rv sp rr w nw : Nat) (out : Int32 × (Nat → Nat → Int32)) (e : fX12_singe n x1 I = some out) : mm_T none (d + 4) 307 (mm_ent 307 [(.ref 62), (.int x1)]) (107, I, J, mm_rf rv sp rr w nw) (fun v h => v = some (.int out.1) ∧ h = (107, out.2, J, mm_rf rv sp rr w nw)) := by
  unfold fX12_singe at e
  refine mm_T.seg (f' := (2, [some (.ref 62), some (.int x1), none, none], [(.int x1), (.ref 62)])) (h' := (107, I, J, mm_rf rv sp rr w nw)) 2 rfl ?_
  obtain ⟨o1057, eo1057, e⟩ := mm_bind e
  refine mm_T.call (t := 253) (as := [(.ref 62), (.int x1)]) (f' := (5, [some (.ref 62), some (.int x1), none, none], [])) rfl (tX12_isBoard (d + 2) x1 I J rv sp rr w nw o1057 eo1057) (fun v h hq => ?_)
  obtain ⟨rfl, rfl⟩ := hq
  refine mm_T.br (c := o1057 = 0) (a := ((8, [some (.ref 62), some (.int x1), none, none], []), (107, I, J, mm_rf rv sp rr w nw))) (b := ((10, [some (.ref 62), some (.int x1), none, none], []), (107, I, J, mm_rf rv sp rr w nw))) rfl (fun h1058 => ?_) (fun h1058 => ?_)
  · rw [if_pos h1058] at e
    refine mm_T.seg (f' := (9, [some (.ref 62), some (.int x1), none, none], [(.int (-1))])) (h' := (107, I, J, mm_rf rv sp rr w nw)) 1 rfl ?_
    cases e
    exact mm_T.ret rfl ⟨rfl, rfl⟩
  · rw [if_neg h1058] at e
    refine mm_T.seg (f' := (11, [some (.ref 62), some (.int x1), none, none], [(.ref 62)])) (h' := (107, I, J, mm_rf rv sp rr w nw)) 1 rfl ?_
    obtain ⟨o1059, eo1059, e⟩ := mm_bind e
    refine mm_T.call (t := 256) (as := [(.ref 62)]) (f' := (14, [some (.ref 62), some (.int x1), none, none], [])) rfl (tX12_fill (d + 3) n I J rv sp rr w nw o1059 eo1059) (fun v h hq => ?_)
    obtain ⟨rfl, rfl⟩ := hq
    refine mm_T.seg (f' := (16, [some (.ref 62), some (.int x1), some (.int 1), none], [])) (h' := (107, o1059, J, mm_rf rv sp rr w nw)) 2 rfl ?_
    refine mm_T.mask [true, true, true, false] ?_
    obtain ⟨o1065, eo1065, e⟩ := mm_bind e
    rcases o1065 with ⟨va1066 | vb1066, vs1066_0⟩
    · cases e
      refine tlX12_singe_L16 d _ n x1 1 o1059 J rv sp rr w nw _ eo1065 (fun z z0 hz => ?_) (fun z z0 hz => ?_)
      · cases hz; exact ⟨rfl, rfl⟩
      · cases hz
    · refine tlX12_singe_L16 d _ n x1 1 o1059 J rv sp rr w nw (.inr vb1066, vs1066_0) eo1065 (fun z z0 hz => ?_) (fun z z0 hz => ?_)
      · cases hz
      · cases hz
        refine mm_T.seg (f' := (57, [none, none, none, none], [(.int (-1))])) (h' := (107, vs1066_0, J, mm_rf rv sp rr w nw)) 1 rfl ?_
        cases e
        exact mm_T.ret rfl ⟨rfl, rfl⟩
set_option maxRecDepth 100000 in
set_option maxHeartbeats 4000000 in
theorem tlX12_divisor_L4 (d : Nat) (Q : Option Value → mm_H → Prop) : ∀ (n : Nat) (y2 : Int32) (y3 : Int32) (I : Nat → Nat → Int32) (J : Nat → Nat → Int64) (rv sp rr w nw : Nat), ∀ (out : Int32), fX12_divisor_L4 n y2 y3 = some out → mm_T none (d + 0) 308 (21, [none, none, some (.int out), none, none], []) (107, I, J, mm_rf rv sp rr w nw) Q → mm_T none (d + 0) 308 (4, [none, none, some (.int y2), some (.int y3), none], []) (107, I, J, mm_rf rv sp rr w nw) Q := by
  intro n
  induction n with
  | zero =>
    intro y2 y3 I J rv sp rr w nw out e k
    rw [fX12_divisor_L4] at e; cases e
  | succ n ih =>
    intro y2 y3 I J rv sp rr w nw out e k
    rw [fX12_divisor_L4] at e
    refine mm_T.seg (f' := (5, [none, none, some (.int y2), some (.int y3), none], [(.int y3)])) (h' := (107, I, J, mm_rf rv sp rr w nw)) 1 rfl ?_
    refine mm_T.br (c := 0 < y3) (a := ((8, [none, none, some (.int y2), some (.int y3), none], []), (107, I, J, mm_rf rv sp rr w nw))) (b := ((21, [none, none, some (.int y2), some (.int y3), none], []), (107, I, J, mm_rf rv sp rr w nw))) rfl (fun h1067 => ?_) (fun h1067 => ?_)
    · rw [if_pos h1067] at e
      refine mm_T.seg (f' := (10, [none, none, some (.int y2), some (.int y3), none], [(.int y3), (.int y2)])) (h' := (107, I, J, mm_rf rv sp rr w nw)) 2 rfl ?_
      by_cases h1068 : y3 = 0
      · rw [if_pos h1068] at e; cases e
      rw [if_neg h1068] at e
      refine mm_T.guard (y := ((11, [none, none, some (.int y2), some (.int y3), none], [(.int (y2 - y2 / y3 * y3))]), (107, I, J, mm_rf rv sp rr w nw))) rfl h1068 ?_
      refine mm_T.seg (f' := (4, [none, none, some (.int y3), some (.int (y2 - y2 / y3 * y3)), some (.int (y2 - y2 / y3 * y3))], [])) (h' := (107, I, J, mm_rf rv sp rr w nw)) 6 rfl ?_
      refine mm_T.mask [false, false, true, true, false] ?_
      exact ih y3 (y2 - y2 / y3 * y3) I J rv sp rr w nw out e k
    · rw [if_neg h1067] at e
      cases e
      refine mm_T.mask [false, false, true, false, false] ?_
      exact k
set_option maxRecDepth 100000 in
set_option maxHeartbeats 4000000 in
theorem tX12_divisor (d n : Nat) (x0 : Int32) (x1 : Int32) (I : Nat → Nat → Int32) (J : Nat → Nat → Int64) (rv sp rr w nw : Nat) (out : Int32) (e : fX12_divisor n x0 x1 = some out) : mm_T none (d + 0) 308 (mm_ent 308 [(.int x0), (.int x1)]) (107, I, J, mm_rf rv sp rr w nw) (fun v h => v = some (.int out) ∧ h = (107, I, J, mm_rf rv sp rr w nw)) := by
  unfold fX12_divisor at e
  refine mm_T.seg (f' := (4, [some (.int x0), some (.int x1), some (.int x0), some (.int x1), none], [])) (h' := (107, I, J, mm_rf rv sp rr w nw)) 4 rfl ?_
  refine mm_T.mask [false, false, true, true, false] ?_
  obtain ⟨o1069, eo1069, e⟩ := mm_bind e
  refine tlX12_divisor_L4 d _ n x0 x1 I J rv sp rr w nw o1069 eo1069 ?_
  refine mm_T.seg (f' := (22, [none, none, some (.int o1069), none, none], [(.int o1069)])) (h' := (107, I, J, mm_rf rv sp rr w nw)) 1 rfl ?_
  cases e
  exact mm_T.ret rfl ⟨rfl, rfl⟩
set_option maxRecDepth 100000 in
set_option maxHeartbeats 4000000 in
theorem tlX12_landsBy_L10 (d : Nat) (Q : Option Value → mm_H → Prop) : ∀ (n : Nat) (y1 : Int32) (y2 : Int32) (y3 : Int32) (y4 : Int32) (y5 : Int32) (I : Nat → Nat → Int32) (J : Nat → Nat → Int64) (rv sp rr w nw : Nat), ∀ (out : Int32 × (Nat → Nat → Int32)), fX12_landsBy_L10 n y1 y2 y3 y4 y5 I = some out → mm_T none (d + 4) 309 (58, [some (.ref 62), some (.int y1), some (.int y2), none, some (.int out.1), none], []) (107, out.2, J, mm_rf rv sp rr w nw) Q → mm_T none (d + 4) 309 (10, [some (.ref 62), some (.int y1), some (.int y2), some (.int y3), some (.int y4), some (.int y5)], []) (107, I, J, mm_rf rv sp rr w nw) Q := by
  intro n
  induction n with
  | zero =>
    intro y1 y2 y3 y4 y5 I J rv sp rr w nw out e k
    rw [fX12_landsBy_L10] at e; cases e
  | succ n ih =>
    intro y1 y2 y3 y4 y5 I J rv sp rr w nw out e k
    rw [fX12_landsBy_L10] at e
    refine mm_T.seg (f' := (14, [some (.ref 62), some (.int y1), some (.int y2), some (.int y3), some (.int y4), some (.int y5)], [(.int y1), (.ref 62), (.int y5)])) (h' := (107, I, J, mm_rf rv sp rr w nw)) 3 rfl ?_
    obtain ⟨o1071, eo1071, e⟩ := mm_bind e
    refine mm_T.call (t := 278) (as := [(.ref 62), (.int y1)]) (f' := (17, [some (.ref 62), some (.int y1), some (.int y2), some (.int y3), some (.int y4), some (.int y5)], [(.int y5)])) rfl (tX12_leftOf (d + 3) y1 I J rv sp rr w nw o1071 eo1071) (fun v h hq => ?_)
    obtain ⟨rfl, rfl⟩ := hq
    refine mm_T.br (c := y5 < o1071) (a := ((20, [some (.ref 62), some (.int y1), some (.int y2), some (.int y3), some (.int y4), some (.int y5)], []), (107, I, J, mm_rf rv sp rr w nw))) (b := ((58, [some (.ref 62), some (.int y1), some (.int y2), some (.int y3), some (.int y4), some (.int y5)], []), (107, I, J, mm_rf rv sp rr w nw))) rfl (fun h1072 => ?_) (fun h1072 => ?_)
    · rw [if_pos h1072] at e
      refine mm_T.seg (f' := (22, [some (.ref 62), some (.int y1), some (.int y2), some (.int y3), some (.int y4), some (.int y5)], [(.int y4)])) (h' := (107, I, J, mm_rf rv sp rr w nw)) 1 rfl ?_
      refine mm_T.br (c := y4 = 0) (a := ((58, [some (.ref 62), some (.int y1), some (.int y2), some (.int y3), some (.int y4), some (.int y5)], []), (107, I, J, mm_rf rv sp rr w nw))) (b := ((25, [some (.ref 62), some (.int y1), some (.int y2), some (.int y3), some (.int y4), some (.int y5)], []), (107, I, J, mm_rf rv sp rr w nw))) rfl (fun h1073 => ?_) (fun h1073 => ?_)
      · rw [if_pos h1073] at e
        cases e
        refine mm_T.mask [true, true, true, false, true, false] ?_
        exact k
      · rw [if_neg h1073] at e
        refine mm_T.seg (f' := (37, [some (.ref 62), some (.int y1), some (.int y2), some (.int y3), some (.int y4), some (.int y5)], [(.int (1 + ((y3 >>> (y5 &&& 31)) &&& 1))), (.int 1), (.int 0), (.int y1), (.ref 62)])) (h' := (107, I, J, mm_rf rv sp rr w nw)) 11 rfl ?_
        obtain ⟨o1074, eo1074, e⟩ := mm_bind e
        refine mm_T.call (t := 261) (as := [(.ref 62), (.int y1), (.int 0), (.int 1), (.int (1 + ((y3 >>> (y5 &&& 31)) &&& 1)))]) (f' := (40, [some (.ref 62), some (.int y1), some (.int y2), some (.int y3), some (.int y4), some (.int y5)], [])) rfl (tX12_goStroke (d + 0) n y1 0 1 (1 + ((y3 >>> (y5 &&& 31)) &&& 1)) I J rv sp rr w nw o1074 eo1074) (fun v h hq => ?_)
        obtain ⟨rfl, rfl⟩ := hq
        refine mm_T.seg (f' := (42, [some (.ref 62), some (.int y1), some (.int y2), some (.int y3), some (.int y4), some (.int y5)], [(.int (o1074.1 - o1074.1 / 2 * 2))])) (h' := (107, o1074.2, J, mm_rf rv sp rr w nw)) 2 rfl ?_
        refine mm_T.br (c := (o1074.1 - o1074.1 / 2 * 2) = 0) (a := ((45, [some (.ref 62), some (.int y1), some (.int y2), some (.int y3), some (.int y4), some (.int y5)], []), (107, o1074.2, J, mm_rf rv sp rr w nw))) (b := ((49, [some (.ref 62), some (.int y1), some (.int y2), some (.int y3), some (.int y4), some (.int y5)], []), (107, o1074.2, J, mm_rf rv sp rr w nw))) rfl (fun h1075 => ?_) (fun h1075 => ?_)
        · rw [if_pos h1075] at e
          refine mm_T.seg (f' := (10, [some (.ref 62), some (.int y1), some (.int y2), some (.int y3), some (.int 1), some (.int (y5 + 1))], [])) (h' := (107, o1074.2, J, mm_rf rv sp rr w nw)) 5 rfl ?_
          refine mm_T.mask [true, true, true, true, true, true] ?_
          exact ih y1 y2 y3 1 (y5 + 1) o1074.2 J rv sp rr w nw out e k
        · rw [if_neg h1075] at e
          refine mm_T.seg (f' := (10, [some (.ref 62), some (.int y1), some (.int y2), some (.int y3), some (.int 0), some (.int (y5 + 1))], [])) (h' := (107, o1074.2, J, mm_rf rv sp rr w nw)) 4 rfl ?_
          refine mm_T.mask [true, true, true, true, true, true] ?_
          exact ih y1 y2 y3 0 (y5 + 1) o1074.2 J rv sp rr w nw out e k
    · rw [if_neg h1072] at e
      cases e
      refine mm_T.mask [true, true, true, false, true, false] ?_
      exact k
set_option maxRecDepth 100000 in
set_option maxHeartbeats 4000000 in
theorem tX12_landsBy (d n : Nat) (x1 : Int32) (x2 : Int32) (x3 : Int32) (I : Nat → Nat → Int32) (J : Nat → Nat → Int64) (rv sp rr w nw : Nat) (out : Int32 × (Nat → Nat → Int32)) (e : fX12_landsBy n x1 x2 x3 I = some out) : mm_T none (d + 4) 309 (mm_ent 309 [(.ref 62), (.int x1), (.int x2), (.int x3)]) (107, I, J, mm_rf rv sp rr w nw) (fun v h => v = some (.int out.1) ∧ h = (107, out.2, J, mm_rf rv sp rr w nw)) := by
  unfold fX12_landsBy at e
  refine mm_T.seg (f' := (1, [some (.ref 62), some (.int x1), some (.int x2), some (.int x3), none, none], [(.ref 62)])) (h' := (107, I, J, mm_rf rv sp rr w nw)) 1 rfl ?_
  obtain ⟨o1070, eo1070, e⟩ := mm_bind e
  refine mm_T.call (t := 256) (as := [(.ref 62)]) (f' := (4, [some (.ref 62), some (.int x1), some (.int x2), some (.int x3), none, none], [])) rfl (tX12_fill (d + 3) n I J rv sp rr w nw o1070 eo1070) (fun v h hq => ?_)
  obtain ⟨rfl, rfl⟩ := hq
  refine mm_T.seg (f' := (10, [some (.ref 62), some (.int x1), some (.int x2), some (.int x3), some (.int 1), some (.int 0)], [])) (h' := (107, o1070, J, mm_rf rv sp rr w nw)) 4 rfl ?_
  refine mm_T.mask [true, true, true, true, true, true] ?_
  obtain ⟨o1076, eo1076, e⟩ := mm_bind e
  refine tlX12_landsBy_L10 d _ n x1 x2 x3 1 0 o1070 J rv sp rr w nw o1076 eo1076 ?_
  refine mm_T.seg (f' := (60, [some (.ref 62), some (.int x1), some (.int x2), none, some (.int o1076.1), none], [(.int o1076.1)])) (h' := (107, o1076.2, J, mm_rf rv sp rr w nw)) 1 rfl ?_
  refine mm_T.br (c := o1076.1 = 0) (a := ((77, [some (.ref 62), some (.int x1), some (.int x2), none, some (.int o1076.1), none], []), (107, o1076.2, J, mm_rf rv sp rr w nw))) (b := ((63, [some (.ref 62), some (.int x1), some (.int x2), none, some (.int o1076.1), none], []), (107, o1076.2, J, mm_rf rv sp rr w nw))) rfl (fun h1077 => ?_) (fun h1077 => ?_)
  · rw [if_pos h1077] at e
    refine mm_T.seg (f' := (78, [some (.ref 62), some (.int x1), some (.int x2), none, some (.int o1076.1), none], [(.int 0)])) (h' := (107, o1076.2, J, mm_rf rv sp rr w nw)) 1 rfl ?_
    cases e
    exact mm_T.ret rfl ⟨rfl, rfl⟩
  · rw [if_neg h1077] at e
    refine mm_T.seg (f' := (67, [some (.ref 62), some (.int x1), some (.int x2), none, some (.int o1076.1), none], [(.ref 85)])) (h' := (107, o1076.2, J, mm_rf rv sp rr w nw)) 2 rfl ?_
    refine mm_T.seg (f' := (68, [some (.ref 62), some (.int x1), some (.int x2), none, some (.int o1076.1), none], [(.int x1), (.ref 85)])) (h' := (107, o1076.2, J, mm_rf rv sp rr w nw)) 1 rfl ?_
    by_cases h1078 : x1 < 0 ∨ 28 ≤ x1.toNatClampNeg
    · rw [if_pos h1078] at e; cases e
    rw [if_neg h1078] at e
    refine mm_T.guard (y := ((69, [some (.ref 62), some (.int x1), some (.int x2), none, some (.int o1076.1), none], [(.int (o1076.2 85 x1.toNatClampNeg))]), (107, o1076.2, J, mm_rf rv sp rr w nw))) rfl h1078 ?_
    refine mm_T.seg (f' := (70, [some (.ref 62), some (.int x1), some (.int x2), none, some (.int o1076.1), none], [(.int x2), (.int (o1076.2 85 x1.toNatClampNeg))])) (h' := (107, o1076.2, J, mm_rf rv sp rr w nw)) 1 rfl ?_
    refine mm_T.br (c := (o1076.2 85 x1.toNatClampNeg) = x2) (a := ((73, [some (.ref 62), some (.int x1), some (.int x2), none, some (.int o1076.1), none], []), (107, o1076.2, J, mm_rf rv sp rr w nw))) (b := ((77, [some (.ref 62), some (.int x1), some (.int x2), none, some (.int o1076.1), none], []), (107, o1076.2, J, mm_rf rv sp rr w nw))) rfl (fun h1079 => ?_) (fun h1079 => ?_)
    · rw [if_pos h1079] at e
      refine mm_T.seg (f' := (78, [some (.ref 62), some (.int x1), some (.int x2), none, some (.int o1076.1), none], [(.int 1)])) (h' := (107, o1076.2, J, mm_rf rv sp rr w nw)) 2 rfl ?_
      cases e
      exact mm_T.ret rfl ⟨rfl, rfl⟩
    · rw [if_neg h1079] at e
      refine mm_T.seg (f' := (78, [some (.ref 62), some (.int x1), some (.int x2), none, some (.int o1076.1), none], [(.int 0)])) (h' := (107, o1076.2, J, mm_rf rv sp rr w nw)) 1 rfl ?_
      cases e
      exact mm_T.ret rfl ⟨rfl, rfl⟩
set_option maxRecDepth 100000 in
set_option maxHeartbeats 4000000 in
theorem tlX12_odds_L55 (d : Nat) (Q : Option Value → mm_H → Prop) : ∀ (n : Nat) (y1 : Int32) (y2 : Int32) (y3 : Int32) (y4 : Int32) (y5 : Int32) (y6 : Int32) (I : Nat → Nat → Int32) (J : Nat → Nat → Int64) (rv sp rr w nw : Nat), ∀ (out : Int32 × (Nat → Nat → Int32)), fX12_odds_L55 n y1 y2 y3 y4 y5 y6 I = some out → mm_T none (d + 5) 310 (117, [none, none, none, some (.int y3), some (.int y4), some (.int out.1), none, none], []) (107, out.2, J, mm_rf rv sp rr w nw) Q → mm_T none (d + 5) 310 (55, [some (.ref 62), some (.int y1), some (.int y2), some (.int y3), some (.int y4), some (.int y5), some (.int y6), none], []) (107, I, J, mm_rf rv sp rr w nw) Q := by
  intro n
  induction n with
  | zero =>
    intro y1 y2 y3 y4 y5 y6 I J rv sp rr w nw out e k
    rw [fX12_odds_L55] at e; cases e
  | succ n ih =>
    intro y1 y2 y3 y4 y5 y6 I J rv sp rr w nw out e k
    rw [fX12_odds_L55] at e
    refine mm_T.seg (f' := (61, [some (.ref 62), some (.int y1), some (.int y2), some (.int y3), some (.int y4), some (.int y5), some (.int y6), none], [(.int ((1 : Int32) <<< (y4 &&& 31))), (.int y6)])) (h' := (107, I, J, mm_rf rv sp rr w nw)) 4 rfl ?_
    refine mm_T.br (c := y6 < ((1 : Int32) <<< (y4 &&& 31))) (a := ((64, [some (.ref 62), some (.int y1), some (.int y2), some (.int y3), some (.int y4), some (.int y5), some (.int y6), none], []), (107, I, J, mm_rf rv sp rr w nw))) (b := ((117, [some (.ref 62), some (.int y1), some (.int y2), some (.int y3), some (.int y4), some (.int y5), some (.int y6), none], []), (107, I, J, mm_rf rv sp rr w nw))) rfl (fun h1087 => ?_) (fun h1087 => ?_)
    · rw [if_pos h1087] at e
      refine mm_T.seg (f' := (69, [some (.ref 62), some (.int y1), some (.int y2), some (.int y3), some (.int y4), some (.int y5), some (.int y6), none], [(.int y6), (.int y2), (.int y1), (.ref 62)])) (h' := (107, I, J, mm_rf rv sp rr w nw)) 4 rfl ?_
      obtain ⟨o1088, eo1088, e⟩ := mm_bind e
      refine mm_T.call (t := 309) (as := [(.ref 62), (.int y1), (.int y2), (.int y6)]) (f' := (72, [some (.ref 62), some (.int y1), some (.int y2), some (.int y3), some (.int y4), some (.int y5), some (.int y6), none], [])) rfl (tX12_landsBy (d + 0) n y1 y2 y6 I J rv sp rr w nw o1088 eo1088) (fun v h hq => ?_)
      obtain ⟨rfl, rfl⟩ := hq
      refine mm_T.br (c := o1088.1 = 0) (a := ((111, [some (.ref 62), some (.int y1), some (.int y2), some (.int y3), some (.int y4), some (.int y5), some (.int y6), none], []), (107, o1088.2, J, mm_rf rv sp rr w nw))) (b := ((75, [some (.ref 62), some (.int y1), some (.int y2), some (.int y3), some (.int y4), some (.int y5), some (.int y6), none], []), (107, o1088.2, J, mm_rf rv sp rr w nw))) rfl (fun h1089 => ?_) (fun h1089 => ?_)
      · rw [if_pos h1089] at e
        refine mm_T.seg (f' := (55, [some (.ref 62), some (.int y1), some (.int y2), some (.int y3), some (.int y4), some (.int y5), some (.int (y6 + 1)), none], [])) (h' := (107, o1088.2, J, mm_rf rv sp rr w nw)) 2 rfl ?_
        refine mm_T.mask [true, true, true, true, true, true, true, false] ?_
        exact ih y1 y2 y3 y4 y5 (y6 + 1) o1088.2 J rv sp rr w nw out e k
      · rw [if_neg h1089] at e
        refine mm_T.seg (f' := (83, [some (.ref 62), some (.int y1), some (.int y2), some (.int y3), some (.int y4), some (.int y5), some (.int y6), none], [(.int y6), (.int (o1088.2 62 50)), (.int y5)])) (h' := (107, o1088.2, J, mm_rf rv sp rr w nw)) 4 rfl ?_
        obtain ⟨o1090, eo1090, e⟩ := mm_bind e
        refine mm_T.call (t := 255) (as := [(.int y6)]) (f' := (86, [some (.ref 62), some (.int y1), some (.int y2), some (.int y3), some (.int y4), some (.int y5), some (.int y6), none], [(.int (o1088.2 62 50)), (.int y5)])) rfl (tX12_members (d + 4) n y6 o1088.2 J rv sp rr w nw o1090 eo1090) (fun v h hq => ?_)
        obtain ⟨rfl, rfl⟩ := hq
        obtain ⟨o1091, eo1091, e⟩ := mm_bind e
        refine mm_T.call (t := 277) (as := [(.int (o1088.2 62 50)), (.int o1090)]) (f' := (89, [some (.ref 62), some (.int y1), some (.int y2), some (.int y3), some (.int y4), some (.int y5), some (.int y6), none], [(.int y5)])) rfl (tX12_power (d + 4) n (o1088.2 62 50) o1090 o1088.2 J rv sp rr w nw o1091 eo1091) (fun v h hq => ?_)
        obtain ⟨rfl, rfl⟩ := hq
        refine mm_T.seg (f' := (100, [some (.ref 62), some (.int y1), some (.int y2), some (.int y3), some (.int y4), some (.int y5), some (.int y6), none], [(.int y6), (.int y4), (.int (100 - (o1088.2 62 50))), (.int o1091), (.int y5)])) (h' := (107, o1088.2, J, mm_rf rv sp rr w nw)) 6 rfl ?_
        obtain ⟨o1092, eo1092, e⟩ := mm_bind e
        refine mm_T.call (t := 255) (as := [(.int y6)]) (f' := (103, [some (.ref 62), some (.int y1), some (.int y2), some (.int y3), some (.int y4), some (.int y5), some (.int y6), none], [(.int y4), (.int (100 - (o1088.2 62 50))), (.int o1091), (.int y5)])) rfl (tX12_members (d + 4) n y6 o1088.2 J rv sp rr w nw o1092 eo1092) (fun v h hq => ?_)
        obtain ⟨rfl, rfl⟩ := hq
        refine mm_T.seg (f' := (104, [some (.ref 62), some (.int y1), some (.int y2), some (.int y3), some (.int y4), some (.int y5), some (.int y6), none], [(.int (y4 - o1092)), (.int (100 - (o1088.2 62 50))), (.int o1091), (.int y5)])) (h' := (107, o1088.2, J, mm_rf rv sp rr w nw)) 1 rfl ?_
        obtain ⟨o1093, eo1093, e⟩ := mm_bind e
        refine mm_T.call (t := 277) (as := [(.int (100 - (o1088.2 62 50))), (.int (y4 - o1092))]) (f' := (107, [some (.ref 62), some (.int y1), some (.int y2), some (.int y3), some (.int y4), some (.int y5), some (.int y6), none], [(.int o1091), (.int y5)])) rfl (tX12_power (d + 4) n (100 - (o1088.2 62 50)) (y4 - o1092) o1088.2 J rv sp rr w nw o1093 eo1093) (fun v h hq => ?_)
        obtain ⟨rfl, rfl⟩ := hq
        refine mm_T.seg (f' := (55, [some (.ref 62), some (.int y1), some (.int y2), some (.int y3), some (.int y4), some (.int (y5 + (o1091 * o1093))), some (.int (y6 + 1)), none], [])) (h' := (107, o1088.2, J, mm_rf rv sp rr w nw)) 5 rfl ?_
        refine mm_T.mask [true, true, true, true, true, true, true, false] ?_
        exact ih y1 y2 y3 y4 (y5 + (o1091 * o1093)) (y6 + 1) o1088.2 J rv sp rr w nw out e k
    · rw [if_neg h1087] at e
      cases e
      refine mm_T.mask [false, false, false, true, true, true, false, false] ?_
      exact k
set_option maxRecDepth 100000 in
set_option maxHeartbeats 4000000 in
theorem tX12_odds (d n : Nat) (x1 : Int32) (x2 : Int32) (x3 : Int32) (I : Nat → Nat → Int32) (J : Nat → Nat → Int64) (rv sp rr w nw : Nat) (out : Int32 × (Nat → Nat → Int32)) (e : fX12_odds n x1 x2 x3 I = some out) : mm_T none (d + 5) 310 (mm_ent 310 [(.ref 62), (.int x1), (.int x2), (.int x3)]) (107, I, J, mm_rf rv sp rr w nw) (fun v h => v = some (.int out.1) ∧ h = (107, out.2, J, mm_rf rv sp rr w nw)) := by
  unfold fX12_odds at e
  refine mm_T.seg (f' := (2, [some (.ref 62), some (.int x1), some (.int x2), some (.int x3), none, none, none, none], [(.int x1), (.ref 62)])) (h' := (107, I, J, mm_rf rv sp rr w nw)) 2 rfl ?_
  obtain ⟨o1080, eo1080, e⟩ := mm_bind e
  refine mm_T.call (t := 253) (as := [(.ref 62), (.int x1)]) (f' := (5, [some (.ref 62), some (.int x1), some (.int x2), some (.int x3), none, none, none, none], [])) rfl (tX12_isBoard (d + 3) x1 I J rv sp rr w nw o1080 eo1080) (fun v h hq => ?_)
  obtain ⟨rfl, rfl⟩ := hq
  refine mm_T.br (c := o1080 = 0) (a := ((40, [some (.ref 62), some (.int x1), some (.int x2), some (.int x3), none, none, none, none], []), (107, I, J, mm_rf rv sp rr w nw))) (b := ((8, [some (.ref 62), some (.int x1), some (.int x2), some (.int x3), none, none, none, none], []), (107, I, J, mm_rf rv sp rr w nw))) rfl (fun h1081 => ?_) (fun h1081 => ?_)
  · rw [if_pos h1081] at e
    refine mm_T.seg (f' := (41, [some (.ref 62), some (.int x1), some (.int x2), some (.int x3), none, none, none, none], [(.int (-1))])) (h' := (107, I, J, mm_rf rv sp rr w nw)) 1 rfl ?_
    cases e
    exact mm_T.ret rfl ⟨rfl, rfl⟩
  · rw [if_neg h1081] at e
    refine mm_T.seg (f' := (10, [some (.ref 62), some (.int x1), some (.int x2), some (.int x3), none, none, none, none], [(.int x1), (.ref 62)])) (h' := (107, I, J, mm_rf rv sp rr w nw)) 2 rfl ?_
    obtain ⟨o1082, eo1082, e⟩ := mm_bind e
    refine mm_T.call (t := 278) (as := [(.ref 62), (.int x1)]) (f' := (13, [some (.ref 62), some (.int x1), some (.int x2), some (.int x3), none, none, none, none], [])) rfl (tX12_leftOf (d + 4) x1 I J rv sp rr w nw o1082 eo1082) (fun v h hq => ?_)
    obtain ⟨rfl, rfl⟩ := hq
    refine mm_T.seg (f' := (14, [some (.ref 62), some (.int x1), some (.int x2), some (.int x3), none, none, none, none], [(.int 4), (.int o1082)])) (h' := (107, I, J, mm_rf rv sp rr w nw)) 1 rfl ?_
    refine mm_T.br (c := 4 < o1082) (a := ((40, [some (.ref 62), some (.int x1), some (.int x2), some (.int x3), none, none, none, none], []), (107, I, J, mm_rf rv sp rr w nw))) (b := ((17, [some (.ref 62), some (.int x1), some (.int x2), some (.int x3), none, none, none, none], []), (107, I, J, mm_rf rv sp rr w nw))) rfl (fun h1083 => ?_) (fun h1083 => ?_)
    · rw [if_pos h1083] at e
      refine mm_T.seg (f' := (41, [some (.ref 62), some (.int x1), some (.int x2), some (.int x3), none, none, none, none], [(.int (-1))])) (h' := (107, I, J, mm_rf rv sp rr w nw)) 1 rfl ?_
      cases e
      exact mm_T.ret rfl ⟨rfl, rfl⟩
    · rw [if_neg h1083] at e
      refine mm_T.seg (f' := (25, [some (.ref 62), some (.int x1), some (.int x2), some (.int x3), none, none, none, none], [(.int ((I 62 46) - 1)), (.int 0), (.int x2)])) (h' := (107, I, J, mm_rf rv sp rr w nw)) 6 rfl ?_
      obtain ⟨g153, hg153⟩ : ∃ z, fX12_isIn x2 0 ((I 62 46) - 1) = z := ⟨_, rfl⟩
      try rw [hg153] at e
      refine mm_T.call (t := 252) (as := [(.int x2), (.int 0), (.int ((I 62 46) - 1))]) (f' := (28, [some (.ref 62), some (.int x1), some (.int x2), some (.int x3), none, none, none, none], [])) rfl (tX12_isIn (d + 4) x2 0 ((I 62 46) - 1) I J rv sp rr w nw g153 hg153) (fun v h hq => ?_)
      obtain ⟨rfl, rfl⟩ := hq
      refine mm_T.br (c := g153 = 0) (a := ((40, [some (.ref 62), some (.int x1), some (.int x2), some (.int x3), none, none, none, none], []), (107, I, J, mm_rf rv sp rr w nw))) (b := ((31, [some (.ref 62), some (.int x1), some (.int x2), some (.int x3), none, none, none, none], []), (107, I, J, mm_rf rv sp rr w nw))) rfl (fun h1084 => ?_) (fun h1084 => ?_)
      · rw [if_pos h1084] at e
        refine mm_T.seg (f' := (41, [some (.ref 62), some (.int x1), some (.int x2), some (.int x3), none, none, none, none], [(.int (-1))])) (h' := (107, I, J, mm_rf rv sp rr w nw)) 1 rfl ?_
        cases e
        exact mm_T.ret rfl ⟨rfl, rfl⟩
      · rw [if_neg h1084] at e
        refine mm_T.seg (f' := (34, [some (.ref 62), some (.int x1), some (.int x2), some (.int x3), none, none, none, none], [(.int 1), (.int 0), (.int x3)])) (h' := (107, I, J, mm_rf rv sp rr w nw)) 3 rfl ?_
        obtain ⟨g154, hg154⟩ : ∃ z, fX12_isIn x3 0 1 = z := ⟨_, rfl⟩
        try rw [hg154] at e
        refine mm_T.call (t := 252) (as := [(.int x3), (.int 0), (.int 1)]) (f' := (37, [some (.ref 62), some (.int x1), some (.int x2), some (.int x3), none, none, none, none], [])) rfl (tX12_isIn (d + 4) x3 0 1 I J rv sp rr w nw g154 hg154) (fun v h hq => ?_)
        obtain ⟨rfl, rfl⟩ := hq
        refine mm_T.br (c := g154 = 0) (a := ((40, [some (.ref 62), some (.int x1), some (.int x2), some (.int x3), none, none, none, none], []), (107, I, J, mm_rf rv sp rr w nw))) (b := ((42, [some (.ref 62), some (.int x1), some (.int x2), some (.int x3), none, none, none, none], []), (107, I, J, mm_rf rv sp rr w nw))) rfl (fun h1085 => ?_) (fun h1085 => ?_)
        · rw [if_pos h1085] at e
          refine mm_T.seg (f' := (41, [some (.ref 62), some (.int x1), some (.int x2), some (.int x3), none, none, none, none], [(.int (-1))])) (h' := (107, I, J, mm_rf rv sp rr w nw)) 1 rfl ?_
          cases e
          exact mm_T.ret rfl ⟨rfl, rfl⟩
        · rw [if_neg h1085] at e
          refine mm_T.seg (f' := (44, [some (.ref 62), some (.int x1), some (.int x2), some (.int x3), none, none, none, none], [(.int x1), (.ref 62)])) (h' := (107, I, J, mm_rf rv sp rr w nw)) 2 rfl ?_
          obtain ⟨o1086, eo1086, e⟩ := mm_bind e
          refine mm_T.call (t := 278) (as := [(.ref 62), (.int x1)]) (f' := (47, [some (.ref 62), some (.int x1), some (.int x2), some (.int x3), none, none, none, none], [])) rfl (tX12_leftOf (d + 4) x1 I J rv sp rr w nw o1086 eo1086) (fun v h hq => ?_)
          obtain ⟨rfl, rfl⟩ := hq
          refine mm_T.seg (f' := (55, [some (.ref 62), some (.int x1), some (.int x2), some (.int x3), some (.int o1086), some (.int 0), some (.int 0), none], [])) (h' := (107, I, J, mm_rf rv sp rr w nw)) 5 rfl ?_
          refine mm_T.mask [true, true, true, true, true, true, true, false] ?_
          obtain ⟨o1094, eo1094, e⟩ := mm_bind e
          refine tlX12_odds_L55 d _ n x1 x2 x3 o1086 0 0 I J rv sp rr w nw o1094 eo1094 ?_
          refine mm_T.seg (f' := (121, [none, none, none, some (.int x3), some (.int o1086), some (.int o1094.1), none, none], [(.int o1086), (.int 100)])) (h' := (107, o1094.2, J, mm_rf rv sp rr w nw)) 2 rfl ?_
          obtain ⟨o1095, eo1095, e⟩ := mm_bind e
          refine mm_T.call (t := 277) (as := [(.int 100), (.int o1086)]) (f' := (124, [none, none, none, some (.int x3), some (.int o1086), some (.int o1094.1), none, none], [])) rfl (tX12_power (d + 4) n 100 o1086 o1094.2 J rv sp rr w nw o1095 eo1095) (fun v h hq => ?_)
          obtain ⟨rfl, rfl⟩ := hq
          refine mm_T.seg (f' := (130, [none, none, none, some (.int x3), some (.int o1086), some (.int o1094.1), some (.int o1095), none], [(.int o1094.1), (.int o1095)])) (h' := (107, o1094.2, J, mm_rf rv sp rr w nw)) 3 rfl ?_
          obtain ⟨o1096, eo1096, e⟩ := mm_bind e
          refine mm_T.call (t := 308) (as := [(.int o1095), (.int o1094.1)]) (f' := (133, [none, none, none, some (.int x3), some (.int o1086), some (.int o1094.1), some (.int o1095), none], [])) rfl (tX12_divisor (d + 4) n o1095 o1094.1 o1094.2 J rv sp rr w nw o1096 eo1096) (fun v h hq => ?_)
          obtain ⟨rfl, rfl⟩ := hq
          refine mm_T.seg (f' := (136, [none, none, none, some (.int x3), some (.int o1086), some (.int o1094.1), some (.int o1095), some (.int o1096)], [(.int x3)])) (h' := (107, o1094.2, J, mm_rf rv sp rr w nw)) 2 rfl ?_
          refine mm_T.br (c := x3 = 0) (a := ((139, [none, none, none, some (.int x3), some (.int o1086), some (.int o1094.1), some (.int o1095), some (.int o1096)], []), (107, o1094.2, J, mm_rf rv sp rr w nw))) (b := ((147, [none, none, none, some (.int x3), some (.int o1086), some (.int o1094.1), some (.int o1095), some (.int o1096)], []), (107, o1094.2, J, mm_rf rv sp rr w nw))) rfl (fun h1097 => ?_) (fun h1097 => ?_)
          · rw [if_pos h1097] at e
            refine mm_T.seg (f' := (143, [none, none, none, some (.int x3), some (.int o1086), some (.int o1094.1), some (.int o1095), some (.int o1096)], [(.int o1096), (.int o1094.1)])) (h' := (107, o1094.2, J, mm_rf rv sp rr w nw)) 2 rfl ?_
            by_cases h1098 : o1096 = 0
            · rw [if_pos h1098] at e; cases e
            rw [if_neg h1098] at e
            refine mm_T.guard (y := ((144, [none, none, none, some (.int x3), some (.int o1086), some (.int o1094.1), some (.int o1095), some (.int o1096)], [(.int (o1094.1 / o1096))]), (107, o1094.2, J, mm_rf rv sp rr w nw))) rfl h1098 ?_
            refine mm_T.seg (f' := (152, [none, none, none, some (.int x3), some (.int o1086), some (.int o1094.1), some (.int o1095), some (.int o1096)], [(.int (o1094.1 / o1096))])) (h' := (107, o1094.2, J, mm_rf rv sp rr w nw)) 1 rfl ?_
            cases e
            exact mm_T.ret rfl ⟨rfl, rfl⟩
          · rw [if_neg h1097] at e
            refine mm_T.seg (f' := (151, [none, none, none, some (.int x3), some (.int o1086), some (.int o1094.1), some (.int o1095), some (.int o1096)], [(.int o1096), (.int o1095)])) (h' := (107, o1094.2, J, mm_rf rv sp rr w nw)) 2 rfl ?_
            by_cases h1099 : o1096 = 0
            · rw [if_pos h1099] at e; cases e
            rw [if_neg h1099] at e
            refine mm_T.guard (y := ((152, [none, none, none, some (.int x3), some (.int o1086), some (.int o1094.1), some (.int o1095), some (.int o1096)], [(.int (o1095 / o1096))]), (107, o1094.2, J, mm_rf rv sp rr w nw))) rfl h1099 ?_
            cases e
            exact mm_T.ret rfl ⟨rfl, rfl⟩
set_option maxRecDepth 100000 in
set_option maxHeartbeats 4000000 in
theorem tX12_over (d n : Nat) (I : Nat → Nat → Int32) (J : Nat → Nat → Int64) (rv sp rr w nw : Nat) (out : Int32 × (Nat → Nat → Int32)) (e : fX12_over n I = some out) : mm_T none (d + 2) 311 (mm_ent 311 [(.ref 62)]) (107, I, J, mm_rf rv sp rr w nw) (fun v h => v = some (.int out.1) ∧ h = (107, out.2, J, mm_rf rv sp rr w nw)) := by
  unfold fX12_over at e
  refine mm_T.seg (f' := (1, [some (.ref 62)], [(.ref 62)])) (h' := (107, I, J, mm_rf rv sp rr w nw)) 1 rfl ?_
  obtain ⟨o1100, eo1100, e⟩ := mm_bind e
  refine mm_T.call (t := 256) (as := [(.ref 62)]) (f' := (4, [some (.ref 62)], [])) rfl (tX12_fill (d + 1) n I J rv sp rr w nw o1100 eo1100) (fun v h hq => ?_)
  obtain ⟨rfl, rfl⟩ := hq
  refine mm_T.seg (f' := (7, [some (.ref 62)], [(.int (-2)), (.ref 62)])) (h' := (107, o1100, J, mm_rf rv sp rr w nw)) 2 rfl ?_
  obtain ⟨o1101, eo1101, e⟩ := mm_bind e
  refine mm_T.call (t := 262) (as := [(.ref 62), (.int (-2))]) (f' := (10, [some (.ref 62)], [])) rfl (tX12_loadsAt (d + 0) n (-2) o1100 J rv sp rr w nw o1101 eo1101) (fun v h hq => ?_)
  obtain ⟨rfl, rfl⟩ := hq
  cases e
  exact mm_T.ret rfl ⟨rfl, rfl⟩
set_option maxRecDepth 100000 in
set_option maxHeartbeats 4000000 in
theorem tX12_left (d n : Nat) (I : Nat → Nat → Int32) (J : Nat → Nat → Int64) (rv sp rr w nw : Nat) (out : Int32 × (Nat → Nat → Int32)) (e : fX12_left n I = some out) : mm_T none (d + 2) 312 (mm_ent 312 [(.ref 62)]) (107, I, J, mm_rf rv sp rr w nw) (fun v h => v = some (.int out.1) ∧ h = (107, out.2, J, mm_rf rv sp rr w nw)) := by
  unfold fX12_left at e
  refine mm_T.seg (f' := (1, [some (.ref 62)], [(.ref 62)])) (h' := (107, I, J, mm_rf rv sp rr w nw)) 1 rfl ?_
  obtain ⟨o1102, eo1102, e⟩ := mm_bind e
  refine mm_T.call (t := 256) (as := [(.ref 62)]) (f' := (4, [some (.ref 62)], [])) rfl (tX12_fill (d + 1) n I J rv sp rr w nw o1102 eo1102) (fun v h hq => ?_)
  obtain ⟨rfl, rfl⟩ := hq
  refine mm_T.seg (f' := (16, [some (.ref 62)], [(.int (-2)), (.ref 62), (.int (((1 : Int32) <<< ((o1102 62 49) &&& 31)) - 1)), (.ref 62)])) (h' := (107, o1102, J, mm_rf rv sp rr w nw)) 9 rfl ?_
  obtain ⟨o1103, eo1103, e⟩ := mm_bind e
  refine mm_T.call (t := 262) (as := [(.ref 62), (.int (-2))]) (f' := (19, [some (.ref 62)], [(.int (((1 : Int32) <<< ((o1102 62 49) &&& 31)) - 1)), (.ref 62)])) rfl (tX12_loadsAt (d + 0) n (-2) o1102 J rv sp rr w nw o1103 eo1103) (fun v h hq => ?_)
  obtain ⟨rfl, rfl⟩ := hq
  refine mm_T.seg (f' := (22, [some (.ref 62)], [(.int ((((1 : Int32) <<< ((o1102 62 49) &&& 31)) - 1) &&& (o1103 ^^^ (-1)))), (.ref 62)])) (h' := (107, o1102, J, mm_rf rv sp rr w nw)) 3 rfl ?_
  obtain ⟨o1104, eo1104, e⟩ := mm_bind e
  refine mm_T.call (t := 289) (as := [(.ref 62), (.int ((((1 : Int32) <<< ((o1102 62 49) &&& 31)) - 1) &&& (o1103 ^^^ (-1))))]) (f' := (25, [some (.ref 62)], [])) rfl (tX12_wideOf (d + 1) n ((((1 : Int32) <<< ((o1102 62 49) &&& 31)) - 1) &&& (o1103 ^^^ (-1))) o1102 J rv sp rr w nw o1104 eo1104) (fun v h hq => ?_)
  obtain ⟨rfl, rfl⟩ := hq
  cases e
  exact mm_T.ret rfl ⟨rfl, rfl⟩
set_option maxRecDepth 100000 in
set_option maxHeartbeats 4000000 in
theorem tlX12_pulled_L4 (d : Nat) (Q : Option Value → mm_H → Prop) : ∀ (n : Nat) (y1 : Int32) (y2 : Int32) (I : Nat → Nat → Int32) (J : Nat → Nat → Int64) (rv sp rr w nw : Nat), ∀ (out : Int32), fX12_pulled_L4 n y1 y2 I = some out → mm_T none (d + 1) 313 (52, [none, some (.int out), none], []) (107, I, J, mm_rf rv sp rr w nw) Q → mm_T none (d + 1) 313 (4, [some (.ref 62), some (.int y1), some (.int y2)], []) (107, I, J, mm_rf rv sp rr w nw) Q := by
  intro n
  induction n with
  | zero =>
    intro y1 y2 I J rv sp rr w nw out e k
    rw [fX12_pulled_L4] at e; cases e
  | succ n ih =>
    intro y1 y2 I J rv sp rr w nw out e k
    rw [fX12_pulled_L4] at e
    refine mm_T.seg (f' := (9, [some (.ref 62), some (.int y1), some (.int y2)], [(.int (I 62 48)), (.int y2)])) (h' := (107, I, J, mm_rf rv sp rr w nw)) 3 rfl ?_
    refine mm_T.br (c := y2 < (I 62 48)) (a := ((12, [some (.ref 62), some (.int y1), some (.int y2)], []), (107, I, J, mm_rf rv sp rr w nw))) (b := ((52, [some (.ref 62), some (.int y1), some (.int y2)], []), (107, I, J, mm_rf rv sp rr w nw))) rfl (fun h1110 => ?_) (fun h1110 => ?_)
    · rw [if_pos h1110] at e
      refine mm_T.seg (f' := (18, [some (.ref 62), some (.int y1), some (.int y2)], [(.ref 84), (.ref 62), (.int y1)])) (h' := (107, I, J, mm_rf rv sp rr w nw)) 4 rfl ?_
      refine mm_T.seg (f' := (19, [some (.ref 62), some (.int y1), some (.int y2)], [(.int y2), (.ref 84), (.ref 62), (.int y1)])) (h' := (107, I, J, mm_rf rv sp rr w nw)) 1 rfl ?_
      by_cases h1111 : y2 < 0 ∨ 28 ≤ y2.toNatClampNeg
      · rw [if_pos h1111] at e; cases e
      rw [if_neg h1111] at e
      refine mm_T.guard (y := ((20, [some (.ref 62), some (.int y1), some (.int y2)], [(.int (I 84 y2.toNatClampNeg)), (.ref 62), (.int y1)]), (107, I, J, mm_rf rv sp rr w nw))) rfl h1111 ?_
      refine mm_T.seg (f' := (24, [some (.ref 62), some (.int y1), some (.int y2)], [(.ref 84), (.int (I 84 y2.toNatClampNeg)), (.ref 62), (.int y1)])) (h' := (107, I, J, mm_rf rv sp rr w nw)) 2 rfl ?_
      refine mm_T.seg (f' := (27, [some (.ref 62), some (.int y1), some (.int y2)], [(.int (4 + y2)), (.ref 84), (.int (I 84 y2.toNatClampNeg)), (.ref 62), (.int y1)])) (h' := (107, I, J, mm_rf rv sp rr w nw)) 3 rfl ?_
      by_cases h1112 : (4 + y2) < 0 ∨ 28 ≤ (4 + y2).toNatClampNeg
      · rw [if_pos h1112] at e; cases e
      rw [if_neg h1112] at e
      refine mm_T.guard (c := (4 + y2) < 0 ∨ 28 ≤ (4 + y2).toNatClampNeg) (y := ((28, [some (.ref 62), some (.int y1), some (.int y2)], [(.int (I 84 (4 + y2).toNatClampNeg)), (.int (I 84 y2.toNatClampNeg)), (.ref 62), (.int y1)]), (107, I, J, mm_rf rv sp rr w nw))) (mm_gen (P := fun z => mm_stp none 313 (27, [some (.ref 62), some (.int y1), some (.int y2)], [(.int z), (.ref 84), (.int (I 84 y2.toNatClampNeg)), (.ref 62), (.int y1)]) (107, I, J, mm_rf rv sp rr w nw) = if z < 0 ∨ 28 ≤ z.toNatClampNeg then none else some (.inl ((28, [some (.ref 62), some (.int y1), some (.int y2)], [(.int (I 84 z.toNatClampNeg)), (.int (I 84 y2.toNatClampNeg)), (.ref 62), (.int y1)]), (107, I, J, mm_rf rv sp rr w nw)))) (4 + y2) (fun z => rfl)) h1112 ?_
      obtain ⟨o1113, eo1113, e⟩ := mm_bind e
      refine mm_T.call (t := 258) (as := [(.ref 62), (.int (I 84 y2.toNatClampNeg)), (.int (I 84 (4 + y2).toNatClampNeg))]) (f' := (31, [some (.ref 62), some (.int y1), some (.int y2)], [(.int y1)])) rfl (tX12_currentAt (d + 0) (I 84 y2.toNatClampNeg) (I 84 (4 + y2).toNatClampNeg) I J rv sp rr w nw o1113 eo1113) (fun v h hq => ?_)
      obtain ⟨rfl, rfl⟩ := hq
      refine mm_T.br (c := 0 < o1113) (a := ((34, [some (.ref 62), some (.int y1), some (.int y2)], [(.int y1)]), (107, I, J, mm_rf rv sp rr w nw))) (b := ((38, [some (.ref 62), some (.int y1), some (.int y2)], [(.int y1)]), (107, I, J, mm_rf rv sp rr w nw))) rfl (fun h1114 => ?_) (fun h1114 => ?_)
      · rw [if_pos h1114] at e
        refine mm_T.seg (f' := (39, [some (.ref 62), some (.int y1), some (.int y2)], [(.int 1), (.int y1)])) (h' := (107, I, J, mm_rf rv sp rr w nw)) 2 rfl ?_
        obtain ⟨g157, hg157⟩ : ∃ z, fX12_truth 1 = z := ⟨_, rfl⟩
        try rw [hg157] at e
        refine mm_T.call (t := 236) (as := [(.int 1)]) (f' := (42, [some (.ref 62), some (.int y1), some (.int y2)], [(.int y1)])) rfl (tX12_truth (d + 0) 1 I J rv sp rr w nw g157 hg157) (fun v h hq => ?_)
        obtain ⟨rfl, rfl⟩ := hq
        refine mm_T.seg (f' := (4, [some (.ref 62), some (.int (y1 ||| (g157 <<< (y2 &&& 31)))), some (.int (y2 + 1))], [])) (h' := (107, I, J, mm_rf rv sp rr w nw)) 6 rfl ?_
        refine mm_T.mask [true, true, true] ?_
        exact ih (y1 ||| (g157 <<< (y2 &&& 31))) (y2 + 1) I J rv sp rr w nw out e k
      · rw [if_neg h1114] at e
        refine mm_T.seg (f' := (39, [some (.ref 62), some (.int y1), some (.int y2)], [(.int 0), (.int y1)])) (h' := (107, I, J, mm_rf rv sp rr w nw)) 1 rfl ?_
        obtain ⟨g158, hg158⟩ : ∃ z, fX12_truth 0 = z := ⟨_, rfl⟩
        try rw [hg158] at e
        refine mm_T.call (t := 236) (as := [(.int 0)]) (f' := (42, [some (.ref 62), some (.int y1), some (.int y2)], [(.int y1)])) rfl (tX12_truth (d + 0) 0 I J rv sp rr w nw g158 hg158) (fun v h hq => ?_)
        obtain ⟨rfl, rfl⟩ := hq
        refine mm_T.seg (f' := (4, [some (.ref 62), some (.int (y1 ||| (g158 <<< (y2 &&& 31)))), some (.int (y2 + 1))], [])) (h' := (107, I, J, mm_rf rv sp rr w nw)) 6 rfl ?_
        refine mm_T.mask [true, true, true] ?_
        exact ih (y1 ||| (g158 <<< (y2 &&& 31))) (y2 + 1) I J rv sp rr w nw out e k
    · rw [if_neg h1110] at e
      cases e
      refine mm_T.mask [false, true, false] ?_
      exact k
set_option maxRecDepth 100000 in
set_option maxHeartbeats 4000000 in
theorem tX12_pulled (d n : Nat) (I : Nat → Nat → Int32) (J : Nat → Nat → Int64) (rv sp rr w nw : Nat) (out : Int32) (e : fX12_pulled n I = some out) : mm_T none (d + 1) 313 (mm_ent 313 [(.ref 62)]) (107, I, J, mm_rf rv sp rr w nw) (fun v h => v = some (.int out) ∧ h = (107, I, J, mm_rf rv sp rr w nw)) := by
  unfold fX12_pulled at e
  refine mm_T.seg (f' := (4, [some (.ref 62), some (.int 0), some (.int 0)], [])) (h' := (107, I, J, mm_rf rv sp rr w nw)) 4 rfl ?_
  refine mm_T.mask [true, true, true] ?_
  obtain ⟨o1115, eo1115, e⟩ := mm_bind e
  refine tlX12_pulled_L4 d _ n 0 0 I J rv sp rr w nw o1115 eo1115 ?_
  refine mm_T.seg (f' := (53, [none, some (.int o1115), none], [(.int o1115)])) (h' := (107, I, J, mm_rf rv sp rr w nw)) 1 rfl ?_
  cases e
  exact mm_T.ret rfl ⟨rfl, rfl⟩
set_option maxRecDepth 100000 in
set_option maxHeartbeats 4000000 in
theorem tlX12_hottest_L4 (d : Nat) (Q : Option Value → mm_H → Prop) : ∀ (n : Nat) (y1 : Int32) (y2 : Int32) (I : Nat → Nat → Int32) (J : Nat → Nat → Int64) (rv sp rr w nw : Nat), ∀ (out : Int32), fX12_hottest_L4 n y1 y2 I = some out → mm_T none (d + 0) 314 (59, [none, some (.int out), none], []) (107, I, J, mm_rf rv sp rr w nw) Q → mm_T none (d + 0) 314 (4, [some (.ref 62), some (.int y1), some (.int y2)], []) (107, I, J, mm_rf rv sp rr w nw) Q := by
  intro n
  induction n with
  | zero =>
    intro y1 y2 I J rv sp rr w nw out e k
    rw [fX12_hottest_L4] at e; cases e
  | succ n ih =>
    intro y1 y2 I J rv sp rr w nw out e k
    rw [fX12_hottest_L4] at e
    refine mm_T.seg (f' := (9, [some (.ref 62), some (.int y1), some (.int y2)], [(.int (I 62 48)), (.int y2)])) (h' := (107, I, J, mm_rf rv sp rr w nw)) 3 rfl ?_
    refine mm_T.br (c := y2 < (I 62 48)) (a := ((12, [some (.ref 62), some (.int y1), some (.int y2)], []), (107, I, J, mm_rf rv sp rr w nw))) (b := ((59, [some (.ref 62), some (.int y1), some (.int y2)], []), (107, I, J, mm_rf rv sp rr w nw))) rfl (fun h1123 => ?_) (fun h1123 => ?_)
    · rw [if_pos h1123] at e
      refine mm_T.seg (f' := (13, [some (.ref 62), some (.int y1), some (.int y2)], [(.int y1)])) (h' := (107, I, J, mm_rf rv sp rr w nw)) 1 rfl ?_
      refine mm_T.br (c := y1 < 0) (a := ((51, [some (.ref 62), some (.int y1), some (.int y2)], []), (107, I, J, mm_rf rv sp rr w nw))) (b := ((16, [some (.ref 62), some (.int y1), some (.int y2)], []), (107, I, J, mm_rf rv sp rr w nw))) rfl (fun h1124 => ?_) (fun h1124 => ?_)
      · rw [if_pos h1124] at e
        refine mm_T.seg (f' := (4, [some (.ref 62), some (.int y2), some (.int (y2 + 1))], [])) (h' := (107, I, J, mm_rf rv sp rr w nw)) 4 rfl ?_
        refine mm_T.mask [true, true, true] ?_
        exact ih y2 (y2 + 1) I J rv sp rr w nw out e k
      · rw [if_neg h1124] at e
        refine mm_T.seg (f' := (20, [some (.ref 62), some (.int y1), some (.int y2)], [(.ref 82)])) (h' := (107, I, J, mm_rf rv sp rr w nw)) 2 rfl ?_
        refine mm_T.seg (f' := (21, [some (.ref 62), some (.int y1), some (.int y2)], [(.int y2), (.ref 82)])) (h' := (107, I, J, mm_rf rv sp rr w nw)) 1 rfl ?_
        by_cases h1125 : y2 < 0 ∨ 4 ≤ y2.toNatClampNeg
        · rw [if_pos h1125] at e; cases e
        rw [if_neg h1125] at e
        refine mm_T.guard (y := ((22, [some (.ref 62), some (.int y1), some (.int y2)], [(.int (I 82 y2.toNatClampNeg))]), (107, I, J, mm_rf rv sp rr w nw))) rfl h1125 ?_
        refine mm_T.seg (f' := (26, [some (.ref 62), some (.int y1), some (.int y2)], [(.ref 84), (.int (I 82 y2.toNatClampNeg))])) (h' := (107, I, J, mm_rf rv sp rr w nw)) 2 rfl ?_
        refine mm_T.seg (f' := (30, [some (.ref 62), some (.int y1), some (.int y2)], [(.int (8 + y2)), (.ref 84), (.int (I 82 y2.toNatClampNeg))])) (h' := (107, I, J, mm_rf rv sp rr w nw)) 3 rfl ?_
        by_cases h1126 : (8 + y2) < 0 ∨ 28 ≤ (8 + y2).toNatClampNeg
        · rw [if_pos h1126] at e; cases e
        rw [if_neg h1126] at e
        refine mm_T.guard (c := (8 + y2) < 0 ∨ 28 ≤ (8 + y2).toNatClampNeg) (y := ((31, [some (.ref 62), some (.int y1), some (.int y2)], [(.int (I 84 (8 + y2).toNatClampNeg)), (.int (I 82 y2.toNatClampNeg))]), (107, I, J, mm_rf rv sp rr w nw))) (mm_gen (P := fun z => mm_stp none 314 (30, [some (.ref 62), some (.int y1), some (.int y2)], [(.int z), (.ref 84), (.int (I 82 y2.toNatClampNeg))]) (107, I, J, mm_rf rv sp rr w nw) = if z < 0 ∨ 28 ≤ z.toNatClampNeg then none else some (.inl ((31, [some (.ref 62), some (.int y1), some (.int y2)], [(.int (I 84 z.toNatClampNeg)), (.int (I 82 y2.toNatClampNeg))]), (107, I, J, mm_rf rv sp rr w nw)))) (8 + y2) (fun z => rfl)) h1126 ?_
        refine mm_T.seg (f' := (36, [some (.ref 62), some (.int y1), some (.int y2)], [(.ref 82), (.int ((I 82 y2.toNatClampNeg) - (I 84 (8 + y2).toNatClampNeg)))])) (h' := (107, I, J, mm_rf rv sp rr w nw)) 3 rfl ?_
        refine mm_T.seg (f' := (37, [some (.ref 62), some (.int y1), some (.int y2)], [(.int y1), (.ref 82), (.int ((I 82 y2.toNatClampNeg) - (I 84 (8 + y2).toNatClampNeg)))])) (h' := (107, I, J, mm_rf rv sp rr w nw)) 1 rfl ?_
        by_cases h1127 : y1 < 0 ∨ 4 ≤ y1.toNatClampNeg
        · rw [if_pos h1127] at e; cases e
        rw [if_neg h1127] at e
        refine mm_T.guard (y := ((38, [some (.ref 62), some (.int y1), some (.int y2)], [(.int (I 82 y1.toNatClampNeg)), (.int ((I 82 y2.toNatClampNeg) - (I 84 (8 + y2).toNatClampNeg)))]), (107, I, J, mm_rf rv sp rr w nw))) rfl h1127 ?_
        refine mm_T.seg (f' := (42, [some (.ref 62), some (.int y1), some (.int y2)], [(.ref 84), (.int (I 82 y1.toNatClampNeg)), (.int ((I 82 y2.toNatClampNeg) - (I 84 (8 + y2).toNatClampNeg)))])) (h' := (107, I, J, mm_rf rv sp rr w nw)) 2 rfl ?_
        refine mm_T.seg (f' := (46, [some (.ref 62), some (.int y1), some (.int y2)], [(.int (8 + y1)), (.ref 84), (.int (I 82 y1.toNatClampNeg)), (.int ((I 82 y2.toNatClampNeg) - (I 84 (8 + y2).toNatClampNeg)))])) (h' := (107, I, J, mm_rf rv sp rr w nw)) 3 rfl ?_
        by_cases h1128 : (8 + y1) < 0 ∨ 28 ≤ (8 + y1).toNatClampNeg
        · rw [if_pos h1128] at e; cases e
        rw [if_neg h1128] at e
        refine mm_T.guard (c := (8 + y1) < 0 ∨ 28 ≤ (8 + y1).toNatClampNeg) (y := ((47, [some (.ref 62), some (.int y1), some (.int y2)], [(.int (I 84 (8 + y1).toNatClampNeg)), (.int (I 82 y1.toNatClampNeg)), (.int ((I 82 y2.toNatClampNeg) - (I 84 (8 + y2).toNatClampNeg)))]), (107, I, J, mm_rf rv sp rr w nw))) (mm_gen (P := fun z => mm_stp none 314 (46, [some (.ref 62), some (.int y1), some (.int y2)], [(.int z), (.ref 84), (.int (I 82 y1.toNatClampNeg)), (.int ((I 82 y2.toNatClampNeg) - (I 84 (8 + y2).toNatClampNeg)))]) (107, I, J, mm_rf rv sp rr w nw) = if z < 0 ∨ 28 ≤ z.toNatClampNeg then none else some (.inl ((47, [some (.ref 62), some (.int y1), some (.int y2)], [(.int (I 84 z.toNatClampNeg)), (.int (I 82 y1.toNatClampNeg)), (.int ((I 82 y2.toNatClampNeg) - (I 84 (8 + y2).toNatClampNeg)))]), (107, I, J, mm_rf rv sp rr w nw)))) (8 + y1) (fun z => rfl)) h1128 ?_
        refine mm_T.seg (f' := (48, [some (.ref 62), some (.int y1), some (.int y2)], [(.int ((I 82 y1.toNatClampNeg) - (I 84 (8 + y1).toNatClampNeg))), (.int ((I 82 y2.toNatClampNeg) - (I 84 (8 + y2).toNatClampNeg)))])) (h' := (107, I, J, mm_rf rv sp rr w nw)) 1 rfl ?_
        refine mm_T.br (c := ((I 82 y2.toNatClampNeg) - (I 84 (8 + y2).toNatClampNeg)) < ((I 82 y1.toNatClampNeg) - (I 84 (8 + y1).toNatClampNeg))) (a := ((51, [some (.ref 62), some (.int y1), some (.int y2)], []), (107, I, J, mm_rf rv sp rr w nw))) (b := ((53, [some (.ref 62), some (.int y1), some (.int y2)], []), (107, I, J, mm_rf rv sp rr w nw))) rfl (fun h1129 => ?_) (fun h1129 => ?_)
        · rw [if_pos h1129] at e
          refine mm_T.seg (f' := (4, [some (.ref 62), some (.int y2), some (.int (y2 + 1))], [])) (h' := (107, I, J, mm_rf rv sp rr w nw)) 4 rfl ?_
          refine mm_T.mask [true, true, true] ?_
          exact ih y2 (y2 + 1) I J rv sp rr w nw out e k
        · rw [if_neg h1129] at e
          refine mm_T.seg (f' := (4, [some (.ref 62), some (.int y1), some (.int (y2 + 1))], [])) (h' := (107, I, J, mm_rf rv sp rr w nw)) 2 rfl ?_
          refine mm_T.mask [true, true, true] ?_
          exact ih y1 (y2 + 1) I J rv sp rr w nw out e k
    · rw [if_neg h1123] at e
      cases e
      refine mm_T.mask [false, true, false] ?_
      exact k
set_option maxRecDepth 100000 in
set_option maxHeartbeats 4000000 in
theorem tX12_hottest (d n : Nat) (I : Nat → Nat → Int32) (J : Nat → Nat → Int64) (rv sp rr w nw : Nat) (out : Int32) (e : fX12_hottest n I = some out) : mm_T none (d + 0) 314 (mm_ent 314 [(.ref 62)]) (107, I, J, mm_rf rv sp rr w nw) (fun v h => v = some (.int out) ∧ h = (107, I, J, mm_rf rv sp rr w nw)) := by
  unfold fX12_hottest at e
  refine mm_T.seg (f' := (4, [some (.ref 62), some (.int (-1)), some (.int 0)], [])) (h' := (107, I, J, mm_rf rv sp rr w nw)) 4 rfl ?_
  refine mm_T.mask [true, true, true] ?_
  obtain ⟨o1130, eo1130, e⟩ := mm_bind e
  refine tlX12_hottest_L4 d _ n (-1) 0 I J rv sp rr w nw o1130 eo1130 ?_
  refine mm_T.seg (f' := (60, [none, some (.int o1130), none], [(.int o1130)])) (h' := (107, I, J, mm_rf rv sp rr w nw)) 1 rfl ?_
  cases e
  exact mm_T.ret rfl ⟨rfl, rfl⟩
set_option maxRecDepth 100000 in
set_option maxHeartbeats 4000000 in
theorem tlX12_law_L22 (d : Nat) (Q : Option Value → mm_H → Prop) : ∀ (n : Nat) (y1 : Int32) (y2 : Int32) (y3 : Int32) (y4 : Int32) (I : Nat → Nat → Int32) (J : Nat → Nat → Int64) (rv sp rr w nw : Nat), ∀ (out : Int32), fX12_law_L22 n y1 y2 y3 y4 I = some out → mm_T none (d + 3) 315 (69, [none, none, none, some (.int out), none], []) (107, I, J, mm_rf rv sp rr w nw) Q → mm_T none (d + 3) 315 (22, [some (.ref 62), some (.int y1), some (.int y2), some (.int y3), some (.int y4)], []) (107, I, J, mm_rf rv sp rr w nw) Q := by
  intro n
  induction n with
  | zero =>
    intro y1 y2 y3 y4 I J rv sp rr w nw out e k
    rw [fX12_law_L22] at e; cases e
  | succ n ih =>
    intro y1 y2 y3 y4 I J rv sp rr w nw out e k
    rw [fX12_law_L22] at e
    refine mm_T.seg (f' := (28, [some (.ref 62), some (.int y1), some (.int y2), some (.int y3), some (.int y4)], [(.int (I 62 49)), (.int y4)])) (h' := (107, I, J, mm_rf rv sp rr w nw)) 3 rfl ?_
    refine mm_T.br (c := y4 < (I 62 49)) (a := ((31, [some (.ref 62), some (.int y1), some (.int y2), some (.int y3), some (.int y4)], []), (107, I, J, mm_rf rv sp rr w nw))) (b := ((69, [some (.ref 62), some (.int y1), some (.int y2), some (.int y3), some (.int y4)], []), (107, I, J, mm_rf rv sp rr w nw))) rfl (fun h1137 => ?_) (fun h1137 => ?_)
    · rw [if_pos h1137] at e
      refine mm_T.seg (f' := (39, [some (.ref 62), some (.int y1), some (.int y2), some (.int y3), some (.int y4)], [(.int 1), (.int ((y2 >>> (y4 &&& 31)) &&& 1)), (.int y3)])) (h' := (107, I, J, mm_rf rv sp rr w nw)) 7 rfl ?_
      refine mm_T.br (c := ((y2 >>> (y4 &&& 31)) &&& 1) = 1) (a := ((42, [some (.ref 62), some (.int y1), some (.int y2), some (.int y3), some (.int y4)], [(.int y3)]), (107, I, J, mm_rf rv sp rr w nw))) (b := ((57, [some (.ref 62), some (.int y1), some (.int y2), some (.int y3), some (.int y4)], [(.int y3)]), (107, I, J, mm_rf rv sp rr w nw))) rfl (fun h1138 => ?_) (fun h1138 => ?_)
      · rw [if_pos h1138] at e
        refine mm_T.seg (f' := (46, [some (.ref 62), some (.int y1), some (.int y2), some (.int y3), some (.int y4)], [(.ref 83), (.int y3)])) (h' := (107, I, J, mm_rf rv sp rr w nw)) 2 rfl ?_
        refine mm_T.seg (f' := (48, [some (.ref 62), some (.int y1), some (.int y2), some (.int y3), some (.int y4)], [(.int y4), (.ref 83), (.int y3)])) (h' := (107, I, J, mm_rf rv sp rr w nw)) 1 rfl ?_
        by_cases h1139 : y4 < 0 ∨ 7 ≤ y4.toNatClampNeg
        · rw [if_pos h1139] at e; cases e
        rw [if_neg h1139] at e
        refine mm_T.guard (y := ((49, [some (.ref 62), some (.int y1), some (.int y2), some (.int y3), some (.int y4)], [(.int (I 83 y4.toNatClampNeg)), (.int y3)]), (107, I, J, mm_rf rv sp rr w nw))) rfl h1139 ?_
        refine mm_T.seg (f' := (50, [some (.ref 62), some (.int y1), some (.int y2), some (.int y3), some (.int y4)], [(.int y1), (.int (I 83 y4.toNatClampNeg)), (.int y3)])) (h' := (107, I, J, mm_rf rv sp rr w nw)) 1 rfl ?_
        refine mm_T.br (c := y1 < (I 83 y4.toNatClampNeg)) (a := ((57, [some (.ref 62), some (.int y1), some (.int y2), some (.int y3), some (.int y4)], [(.int y3)]), (107, I, J, mm_rf rv sp rr w nw))) (b := ((53, [some (.ref 62), some (.int y1), some (.int y2), some (.int y3), some (.int y4)], [(.int y3)]), (107, I, J, mm_rf rv sp rr w nw))) rfl (fun h1140 => ?_) (fun h1140 => ?_)
        · rw [if_pos h1140] at e
          refine mm_T.seg (f' := (58, [some (.ref 62), some (.int y1), some (.int y2), some (.int y3), some (.int y4)], [(.int 0), (.int y3)])) (h' := (107, I, J, mm_rf rv sp rr w nw)) 1 rfl ?_
          obtain ⟨g163, hg163⟩ : ∃ z, fX12_truth 0 = z := ⟨_, rfl⟩
          try rw [hg163] at e
          refine mm_T.call (t := 236) (as := [(.int 0)]) (f' := (61, [some (.ref 62), some (.int y1), some (.int y2), some (.int y3), some (.int y4)], [(.int y3)])) rfl (tX12_truth (d + 2) 0 I J rv sp rr w nw g163 hg163) (fun v h hq => ?_)
          obtain ⟨rfl, rfl⟩ := hq
          refine mm_T.seg (f' := (22, [some (.ref 62), some (.int y1), some (.int y2), some (.int (y3 + g163)), some (.int (y4 + 1))], [])) (h' := (107, I, J, mm_rf rv sp rr w nw)) 4 rfl ?_
          refine mm_T.mask [true, true, true, true, true] ?_
          exact ih y1 y2 (y3 + g163) (y4 + 1) I J rv sp rr w nw out e k
        · rw [if_neg h1140] at e
          refine mm_T.seg (f' := (58, [some (.ref 62), some (.int y1), some (.int y2), some (.int y3), some (.int y4)], [(.int 1), (.int y3)])) (h' := (107, I, J, mm_rf rv sp rr w nw)) 2 rfl ?_
          obtain ⟨g164, hg164⟩ : ∃ z, fX12_truth 1 = z := ⟨_, rfl⟩
          try rw [hg164] at e
          refine mm_T.call (t := 236) (as := [(.int 1)]) (f' := (61, [some (.ref 62), some (.int y1), some (.int y2), some (.int y3), some (.int y4)], [(.int y3)])) rfl (tX12_truth (d + 2) 1 I J rv sp rr w nw g164 hg164) (fun v h hq => ?_)
          obtain ⟨rfl, rfl⟩ := hq
          refine mm_T.seg (f' := (22, [some (.ref 62), some (.int y1), some (.int y2), some (.int (y3 + g164)), some (.int (y4 + 1))], [])) (h' := (107, I, J, mm_rf rv sp rr w nw)) 4 rfl ?_
          refine mm_T.mask [true, true, true, true, true] ?_
          exact ih y1 y2 (y3 + g164) (y4 + 1) I J rv sp rr w nw out e k
      · rw [if_neg h1138] at e
        refine mm_T.seg (f' := (58, [some (.ref 62), some (.int y1), some (.int y2), some (.int y3), some (.int y4)], [(.int 0), (.int y3)])) (h' := (107, I, J, mm_rf rv sp rr w nw)) 1 rfl ?_
        obtain ⟨g165, hg165⟩ : ∃ z, fX12_truth 0 = z := ⟨_, rfl⟩
        try rw [hg165] at e
        refine mm_T.call (t := 236) (as := [(.int 0)]) (f' := (61, [some (.ref 62), some (.int y1), some (.int y2), some (.int y3), some (.int y4)], [(.int y3)])) rfl (tX12_truth (d + 2) 0 I J rv sp rr w nw g165 hg165) (fun v h hq => ?_)
        obtain ⟨rfl, rfl⟩ := hq
        refine mm_T.seg (f' := (22, [some (.ref 62), some (.int y1), some (.int y2), some (.int (y3 + g165)), some (.int (y4 + 1))], [])) (h' := (107, I, J, mm_rf rv sp rr w nw)) 4 rfl ?_
        refine mm_T.mask [true, true, true, true, true] ?_
        exact ih y1 y2 (y3 + g165) (y4 + 1) I J rv sp rr w nw out e k
    · rw [if_neg h1137] at e
      cases e
      refine mm_T.mask [false, false, false, true, false] ?_
      exact k
set_option maxRecDepth 100000 in
set_option maxHeartbeats 4000000 in
theorem tX12_law (d n : Nat) (x1 : Int32) (I : Nat → Nat → Int32) (J : Nat → Nat → Int64) (rv sp rr w nw : Nat) (out : Int32 × (Nat → Nat → Int32)) (e : fX12_law n x1 I = some out) : mm_T none (d + 3) 315 (mm_ent 315 [(.ref 62), (.int x1)]) (107, I, J, mm_rf rv sp rr w nw) (fun v h => v = some (.int out.1) ∧ h = (107, out.2, J, mm_rf rv sp rr w nw)) := by
  unfold fX12_law at e
  refine mm_T.seg (f' := (4, [some (.ref 62), some (.int x1), none, none, none], [(.int 99), (.int 0), (.int x1)])) (h' := (107, I, J, mm_rf rv sp rr w nw)) 3 rfl ?_
  obtain ⟨g159, hg159⟩ : ∃ z, fX12_isIn x1 0 99 = z := ⟨_, rfl⟩
  try rw [hg159] at e
  refine mm_T.call (t := 252) (as := [(.int x1), (.int 0), (.int 99)]) (f' := (7, [some (.ref 62), some (.int x1), none, none, none], [])) rfl (tX12_isIn (d + 2) x1 0 99 I J rv sp rr w nw g159 hg159) (fun v h hq => ?_)
  obtain ⟨rfl, rfl⟩ := hq
  refine mm_T.br (c := g159 = 0) (a := ((10, [some (.ref 62), some (.int x1), none, none, none], []), (107, I, J, mm_rf rv sp rr w nw))) (b := ((12, [some (.ref 62), some (.int x1), none, none, none], []), (107, I, J, mm_rf rv sp rr w nw))) rfl (fun h1131 => ?_) (fun h1131 => ?_)
  · rw [if_pos h1131] at e
    refine mm_T.seg (f' := (11, [some (.ref 62), some (.int x1), none, none, none], [(.int (-1))])) (h' := (107, I, J, mm_rf rv sp rr w nw)) 1 rfl ?_
    cases e
    exact mm_T.ret rfl ⟨rfl, rfl⟩
  · rw [if_neg h1131] at e
    refine mm_T.seg (f' := (13, [some (.ref 62), some (.int x1), none, none, none], [(.ref 62)])) (h' := (107, I, J, mm_rf rv sp rr w nw)) 1 rfl ?_
    obtain ⟨o1132, eo1132, e⟩ := mm_bind e
    refine mm_T.call (t := 291) (as := [(.ref 62)]) (f' := (16, [some (.ref 62), some (.int x1), none, none, none], [])) rfl (tX12_nearLoads (d + 0) n I J rv sp rr w nw o1132 eo1132) (fun v h hq => ?_)
    obtain ⟨rfl, rfl⟩ := hq
    refine mm_T.seg (f' := (22, [some (.ref 62), some (.int x1), some (.int o1132.1), some (.int 0), some (.int 0)], [])) (h' := (107, o1132.2, J, mm_rf rv sp rr w nw)) 5 rfl ?_
    refine mm_T.mask [true, true, true, true, true] ?_
    obtain ⟨o1141, eo1141, e⟩ := mm_bind e
    refine tlX12_law_L22 d _ n x1 o1132.1 0 0 o1132.2 J rv sp rr w nw o1141 eo1141 ?_
    refine mm_T.seg (f' := (70, [none, none, none, some (.int o1141), none], [(.int o1141)])) (h' := (107, o1132.2, J, mm_rf rv sp rr w nw)) 1 rfl ?_
    cases e
    exact mm_T.ret rfl ⟨rfl, rfl⟩
set_option maxRecDepth 100000 in
set_option maxHeartbeats 4000000 in
theorem tX12_lies (d : Nat) (x1 : Int32) (I : Nat → Nat → Int32) (J : Nat → Nat → Int64) (rv sp rr w nw : Nat) (out : Int32) (e : fX12_lies x1 I = some out) : mm_T none (d + 1) 316 (mm_ent 316 [(.ref 62), (.int x1)]) (107, I, J, mm_rf rv sp rr w nw) (fun v h => v = some (.int out) ∧ h = (107, I, J, mm_rf rv sp rr w nw)) := by
  unfold fX12_lies at e
  refine mm_T.seg (f' := (8, [some (.ref 62), some (.int x1)], [(.int ((I 62 61) - 1)), (.int 0), (.int x1)])) (h' := (107, I, J, mm_rf rv sp rr w nw)) 6 rfl ?_
  obtain ⟨g166, hg166⟩ : ∃ z, fX12_isIn x1 0 ((I 62 61) - 1) = z := ⟨_, rfl⟩
  try rw [hg166] at e
  refine mm_T.call (t := 252) (as := [(.int x1), (.int 0), (.int ((I 62 61) - 1))]) (f' := (11, [some (.ref 62), some (.int x1)], [])) rfl (tX12_isIn (d + 0) x1 0 ((I 62 61) - 1) I J rv sp rr w nw g166 hg166) (fun v h hq => ?_)
  obtain ⟨rfl, rfl⟩ := hq
  refine mm_T.br (c := g166 = 0) (a := ((23, [some (.ref 62), some (.int x1)], []), (107, I, J, mm_rf rv sp rr w nw))) (b := ((14, [some (.ref 62), some (.int x1)], []), (107, I, J, mm_rf rv sp rr w nw))) rfl (fun h1142 => ?_) (fun h1142 => ?_)
  · rw [if_pos h1142] at e
    refine mm_T.seg (f' := (25, [some (.ref 62), some (.int x1)], [(.int (-2))])) (h' := (107, I, J, mm_rf rv sp rr w nw)) 1 rfl ?_
    cases e
    exact mm_T.ret rfl ⟨rfl, rfl⟩
  · rw [if_neg h1142] at e
    refine mm_T.seg (f' := (18, [some (.ref 62), some (.int x1)], [(.ref 88)])) (h' := (107, I, J, mm_rf rv sp rr w nw)) 2 rfl ?_
    refine mm_T.seg (f' := (19, [some (.ref 62), some (.int x1)], [(.int x1), (.ref 88)])) (h' := (107, I, J, mm_rf rv sp rr w nw)) 1 rfl ?_
    by_cases h1143 : x1 < 0 ∨ 7 ≤ x1.toNatClampNeg
    · rw [if_pos h1143] at e; cases e
    rw [if_neg h1143] at e
    refine mm_T.guard (y := ((20, [some (.ref 62), some (.int x1)], [(.int (I 88 x1.toNatClampNeg))]), (107, I, J, mm_rf rv sp rr w nw))) rfl h1143 ?_
    refine mm_T.seg (f' := (25, [some (.ref 62), some (.int x1)], [(.int (I 88 x1.toNatClampNeg))])) (h' := (107, I, J, mm_rf rv sp rr w nw)) 1 rfl ?_
    cases e
    exact mm_T.ret rfl ⟨rfl, rfl⟩
set_option maxRecDepth 100000 in
set_option maxHeartbeats 4000000 in
theorem tX12_see (d : Nat) (x1 : Int32) (x2 : Int32) (x3 : Int32) (x4 : Int32) (I : Nat → Nat → Int32) (J : Nat → Nat → Int64) (rv sp rr w nw : Nat) (out : Int32 × (Nat → Nat → Int32)) (e : fX12_see x1 x2 x3 x4 I = some out) : mm_T none (d + 1) 317 (mm_ent 317 [(.ref 62), (.int x1), (.int x2), (.int x3), (.int x4)]) (107, I, J, mm_rf rv sp rr w nw) (fun v h => v = some (.int out.1) ∧ h = (107, out.2, J, mm_rf rv sp rr w nw)) := by
  unfold fX12_see at e
  refine mm_T.seg (f' := (4, [some (.ref 62), some (.int x1), some (.int x2), some (.int x3), some (.int x4)], [(.int (I 62 48))])) (h' := (107, I, J, mm_rf rv sp rr w nw)) 2 rfl ?_
  refine mm_T.br (c := (I 62 48) = 0) (a := ((28, [some (.ref 62), some (.int x1), some (.int x2), some (.int x3), some (.int x4)], []), (107, I, J, mm_rf rv sp rr w nw))) (b := ((7, [some (.ref 62), some (.int x1), some (.int x2), some (.int x3), some (.int x4)], []), (107, I, J, mm_rf rv sp rr w nw))) rfl (fun h1144 => ?_) (fun h1144 => ?_)
  · rw [if_pos h1144] at e
    refine mm_T.seg (f' := (29, [some (.ref 62), some (.int x1), some (.int x2), some (.int x3), some (.int x4)], [(.int (-1))])) (h' := (107, I, J, mm_rf rv sp rr w nw)) 1 rfl ?_
    cases e
    exact mm_T.ret rfl ⟨rfl, rfl⟩
  · rw [if_neg h1144] at e
    refine mm_T.seg (f' := (13, [some (.ref 62), some (.int x1), some (.int x2), some (.int x3), some (.int x4)], [(.int (I 62 47)), (.int 1), (.int x2)])) (h' := (107, I, J, mm_rf rv sp rr w nw)) 4 rfl ?_
    obtain ⟨g167, hg167⟩ : ∃ z, fX12_isIn x2 1 (I 62 47) = z := ⟨_, rfl⟩
    try rw [hg167] at e
    refine mm_T.call (t := 252) (as := [(.int x2), (.int 1), (.int (I 62 47))]) (f' := (16, [some (.ref 62), some (.int x1), some (.int x2), some (.int x3), some (.int x4)], [])) rfl (tX12_isIn (d + 0) x2 1 (I 62 47) I J rv sp rr w nw g167 hg167) (fun v h hq => ?_)
    obtain ⟨rfl, rfl⟩ := hq
    refine mm_T.br (c := g167 = 0) (a := ((28, [some (.ref 62), some (.int x1), some (.int x2), some (.int x3), some (.int x4)], []), (107, I, J, mm_rf rv sp rr w nw))) (b := ((19, [some (.ref 62), some (.int x1), some (.int x2), some (.int x3), some (.int x4)], []), (107, I, J, mm_rf rv sp rr w nw))) rfl (fun h1145 => ?_) (fun h1145 => ?_)
    · rw [if_pos h1145] at e
      refine mm_T.seg (f' := (29, [some (.ref 62), some (.int x1), some (.int x2), some (.int x3), some (.int x4)], [(.int (-1))])) (h' := (107, I, J, mm_rf rv sp rr w nw)) 1 rfl ?_
      cases e
      exact mm_T.ret rfl ⟨rfl, rfl⟩
    · rw [if_neg h1145] at e
      refine mm_T.seg (f' := (25, [some (.ref 62), some (.int x1), some (.int x2), some (.int x3), some (.int x4)], [(.int 30), (.int (I 62 75))])) (h' := (107, I, J, mm_rf rv sp rr w nw)) 3 rfl ?_
      refine mm_T.br (c := (I 62 75) = 30) (a := ((28, [some (.ref 62), some (.int x1), some (.int x2), some (.int x3), some (.int x4)], []), (107, I, J, mm_rf rv sp rr w nw))) (b := ((30, [some (.ref 62), some (.int x1), some (.int x2), some (.int x3), some (.int x4)], []), (107, I, J, mm_rf rv sp rr w nw))) rfl (fun h1146 => ?_) (fun h1146 => ?_)
      · rw [if_pos h1146] at e
        refine mm_T.seg (f' := (29, [some (.ref 62), some (.int x1), some (.int x2), some (.int x3), some (.int x4)], [(.int (-1))])) (h' := (107, I, J, mm_rf rv sp rr w nw)) 1 rfl ?_
        cases e
        exact mm_T.ret rfl ⟨rfl, rfl⟩
      · rw [if_neg h1146] at e
        refine mm_T.seg (f' := (34, [some (.ref 62), some (.int x1), some (.int x2), some (.int x3), some (.int x4)], [(.ref 96)])) (h' := (107, I, J, mm_rf rv sp rr w nw)) 2 rfl ?_
        refine mm_T.seg (f' := (39, [some (.ref 62), some (.int x1), some (.int x2), some (.int x3), some (.int x4)], [(.int x1), (.int (I 62 75)), (.ref 96)])) (h' := (107, I, J, mm_rf rv sp rr w nw)) 3 rfl ?_
        by_cases h1147 : (I 62 75) < 0 ∨ 30 ≤ (I 62 75).toNatClampNeg
        · rw [if_pos h1147] at e; cases e
        rw [if_neg h1147] at e
        refine mm_T.guard (y := ((40, [some (.ref 62), some (.int x1), some (.int x2), some (.int x3), some (.int x4)], []), (107, (mm_up I 96 (I 62 75).toNatClampNeg x1), J, mm_rf rv sp rr w nw))) rfl h1147 ?_
        refine mm_T.seg (f' := (44, [some (.ref 62), some (.int x1), some (.int x2), some (.int x3), some (.int x4)], [(.ref 97)])) (h' := (107, (mm_up I 96 (I 62 75).toNatClampNeg x1), J, mm_rf rv sp rr w nw)) 2 rfl ?_
        refine mm_T.seg (f' := (49, [some (.ref 62), some (.int x1), some (.int x2), some (.int x3), some (.int x4)], [(.int x2), (.int (I 62 75)), (.ref 97)])) (h' := (107, (mm_up I 96 (I 62 75).toNatClampNeg x1), J, mm_rf rv sp rr w nw)) 3 rfl ?_
        by_cases h1148 : (I 62 75) < 0 ∨ 30 ≤ (I 62 75).toNatClampNeg
        · rw [if_pos h1148] at e; cases e
        rw [if_neg h1148] at e
        refine mm_T.guard (y := ((50, [some (.ref 62), some (.int x1), some (.int x2), some (.int x3), some (.int x4)], []), (107, (mm_up (mm_up I 96 (I 62 75).toNatClampNeg x1) 97 (I 62 75).toNatClampNeg x2), J, mm_rf rv sp rr w nw))) rfl h1148 ?_
        refine mm_T.seg (f' := (54, [some (.ref 62), some (.int x1), some (.int x2), some (.int x3), some (.int x4)], [(.ref 98)])) (h' := (107, (mm_up (mm_up I 96 (I 62 75).toNatClampNeg x1) 97 (I 62 75).toNatClampNeg x2), J, mm_rf rv sp rr w nw)) 2 rfl ?_
        refine mm_T.seg (f' := (59, [some (.ref 62), some (.int x1), some (.int x2), some (.int x3), some (.int x4)], [(.int x3), (.int (I 62 75)), (.ref 98)])) (h' := (107, (mm_up (mm_up I 96 (I 62 75).toNatClampNeg x1) 97 (I 62 75).toNatClampNeg x2), J, mm_rf rv sp rr w nw)) 3 rfl ?_
        by_cases h1149 : (I 62 75) < 0 ∨ 30 ≤ (I 62 75).toNatClampNeg
        · rw [if_pos h1149] at e; cases e
        rw [if_neg h1149] at e
        refine mm_T.guard (y := ((60, [some (.ref 62), some (.int x1), some (.int x2), some (.int x3), some (.int x4)], []), (107, (mm_up (mm_up (mm_up I 96 (I 62 75).toNatClampNeg x1) 97 (I 62 75).toNatClampNeg x2) 98 (I 62 75).toNatClampNeg x3), J, mm_rf rv sp rr w nw))) rfl h1149 ?_
        refine mm_T.seg (f' := (64, [some (.ref 62), some (.int x1), some (.int x2), some (.int x3), some (.int x4)], [(.ref 101)])) (h' := (107, (mm_up (mm_up (mm_up I 96 (I 62 75).toNatClampNeg x1) 97 (I 62 75).toNatClampNeg x2) 98 (I 62 75).toNatClampNeg x3), J, mm_rf rv sp rr w nw)) 2 rfl ?_
        refine mm_T.seg (f' := (70, [some (.ref 62), some (.int x1), some (.int x2), some (.int x3), some (.int x4)], [(.int x4), (.int (I 62 75)), (.ref 101)])) (h' := (107, (mm_up (mm_up (mm_up I 96 (I 62 75).toNatClampNeg x1) 97 (I 62 75).toNatClampNeg x2) 98 (I 62 75).toNatClampNeg x3), J, mm_rf rv sp rr w nw)) 3 rfl ?_
        by_cases h1150 : (I 62 75) < 0 ∨ 30 ≤ (I 62 75).toNatClampNeg
        · rw [if_pos h1150] at e; cases e
        rw [if_neg h1150] at e
        refine mm_T.guard (y := ((71, [some (.ref 62), some (.int x1), some (.int x2), some (.int x3), some (.int x4)], []), (107, (mm_up (mm_up (mm_up (mm_up I 96 (I 62 75).toNatClampNeg x1) 97 (I 62 75).toNatClampNeg x2) 98 (I 62 75).toNatClampNeg x3) 101 (I 62 75).toNatClampNeg (vp_nar .boolean x4)), J, mm_rf rv sp rr w nw))) rfl h1150 ?_
        refine mm_T.seg (f' := (75, [some (.ref 62), some (.int x1), some (.int x2), some (.int x3), some (.int x4)], [(.ref 99)])) (h' := (107, (mm_up (mm_up (mm_up (mm_up I 96 (I 62 75).toNatClampNeg x1) 97 (I 62 75).toNatClampNeg x2) 98 (I 62 75).toNatClampNeg x3) 101 (I 62 75).toNatClampNeg (vp_nar .boolean x4)), J, mm_rf rv sp rr w nw)) 2 rfl ?_
        refine mm_T.seg (f' := (83, [some (.ref 62), some (.int x1), some (.int x2), some (.int x3), some (.int x4)], [(.int (I 62 76)), (.int (I 62 75)), (.ref 99)])) (h' := (107, (mm_up (mm_up (mm_up (mm_up I 96 (I 62 75).toNatClampNeg x1) 97 (I 62 75).toNatClampNeg x2) 98 (I 62 75).toNatClampNeg x3) 101 (I 62 75).toNatClampNeg (vp_nar .boolean x4)), J, mm_rf rv sp rr w nw)) 4 rfl ?_
        by_cases h1151 : (I 62 75) < 0 ∨ 30 ≤ (I 62 75).toNatClampNeg
        · rw [if_pos h1151] at e; cases e
        rw [if_neg h1151] at e
        refine mm_T.guard (y := ((84, [some (.ref 62), some (.int x1), some (.int x2), some (.int x3), some (.int x4)], []), (107, (mm_up (mm_up (mm_up (mm_up (mm_up I 96 (I 62 75).toNatClampNeg x1) 97 (I 62 75).toNatClampNeg x2) 98 (I 62 75).toNatClampNeg x3) 101 (I 62 75).toNatClampNeg (vp_nar .boolean x4)) 99 (I 62 75).toNatClampNeg (I 62 76)), J, mm_rf rv sp rr w nw))) rfl h1151 ?_
        refine mm_T.seg (f' := (88, [some (.ref 62), some (.int x1), some (.int x2), some (.int x3), some (.int x4)], [(.ref 100)])) (h' := (107, (mm_up (mm_up (mm_up (mm_up (mm_up I 96 (I 62 75).toNatClampNeg x1) 97 (I 62 75).toNatClampNeg x2) 98 (I 62 75).toNatClampNeg x3) 101 (I 62 75).toNatClampNeg (vp_nar .boolean x4)) 99 (I 62 75).toNatClampNeg (I 62 76)), J, mm_rf rv sp rr w nw)) 2 rfl ?_
        refine mm_T.seg (f' := (93, [some (.ref 62), some (.int x1), some (.int x2), some (.int x3), some (.int x4)], [(.int (-1)), (.int (I 62 75)), (.ref 100)])) (h' := (107, (mm_up (mm_up (mm_up (mm_up (mm_up I 96 (I 62 75).toNatClampNeg x1) 97 (I 62 75).toNatClampNeg x2) 98 (I 62 75).toNatClampNeg x3) 101 (I 62 75).toNatClampNeg (vp_nar .boolean x4)) 99 (I 62 75).toNatClampNeg (I 62 76)), J, mm_rf rv sp rr w nw)) 3 rfl ?_
        by_cases h1152 : (I 62 75) < 0 ∨ 30 ≤ (I 62 75).toNatClampNeg
        · rw [if_pos h1152] at e; cases e
        rw [if_neg h1152] at e
        refine mm_T.guard (y := ((94, [some (.ref 62), some (.int x1), some (.int x2), some (.int x3), some (.int x4)], []), (107, (mm_up (mm_up (mm_up (mm_up (mm_up (mm_up I 96 (I 62 75).toNatClampNeg x1) 97 (I 62 75).toNatClampNeg x2) 98 (I 62 75).toNatClampNeg x3) 101 (I 62 75).toNatClampNeg (vp_nar .boolean x4)) 99 (I 62 75).toNatClampNeg (I 62 76)) 100 (I 62 75).toNatClampNeg (-1)), J, mm_rf rv sp rr w nw))) rfl h1152 ?_
        refine mm_T.seg (f' := (110, [some (.ref 62), some (.int x1), some (.int x2), some (.int x3), some (.int x4)], [(.int (((I 62 75) + 1) - 1))])) (h' := (107, (mm_up (mm_up (mm_up (mm_up (mm_up (mm_up (mm_up I 96 (I 62 75).toNatClampNeg x1) 97 (I 62 75).toNatClampNeg x2) 98 (I 62 75).toNatClampNeg x3) 101 (I 62 75).toNatClampNeg (vp_nar .boolean x4)) 99 (I 62 75).toNatClampNeg (I 62 76)) 100 (I 62 75).toNatClampNeg (-1)) 62 75 ((I 62 75) + 1)), J, mm_rf rv sp rr w nw)) 10 rfl ?_
        cases e
        exact mm_T.ret rfl ⟨rfl, rfl⟩
