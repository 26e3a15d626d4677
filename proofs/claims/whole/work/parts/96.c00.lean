set_option maxRecDepth 100000 in
set_option maxHeartbeats 4000000 in
theorem tX0_clear (d : Nat) (fo : Nat) (I : Nat → Nat → Int32) (J : Nat → Nat → Int64) (rv sp rr w nw : Nat) (hfo : fo = 4 ∨ fo = 20) (out : (Nat → Nat → Int32)) (e : fX0_clear fo I = out) : mm_T none (d + 0) 1 (mm_ent 1 [(.ref fo)]) (107, I, J, mm_rf rv sp rr w nw) (fun v h => v = none ∧ h = (107, out, J, mm_rf rv sp rr w nw)) := by
  rcases hfo with rfl | rfl
  · unfold fX0_clear at e
    refine mm_T.seg (f' := (10, [some (.ref 4)], [])) (h' := (107, (mm_up (mm_up I 4 3 0) 4 4 0), J, mm_rf rv sp rr w nw)) 6 rfl ?_
    cases e
    exact mm_T.ret rfl ⟨rfl, rfl⟩
  · unfold fX0_clear at e
    refine mm_T.seg (f' := (10, [some (.ref 20)], [])) (h' := (107, (mm_up (mm_up I 20 3 0) 20 4 0), J, mm_rf rv sp rr w nw)) 6 rfl ?_
    cases e
    exact mm_T.ret rfl ⟨rfl, rfl⟩
set_option maxRecDepth 100000 in
set_option maxHeartbeats 4000000 in
theorem tX0_add (d : Nat) (x1 : Int32) (fo : Nat) (I : Nat → Nat → Int32) (J : Nat → Nat → Int64) (rv sp rr w nw : Nat) (hfo : fo = 4 ∨ fo = 20) (out : (Nat → Nat → Int32)) (e : fX0_add x1 fo I = some out) : mm_T none (d + 0) 2 (mm_ent 2 [(.ref fo), (.int x1)]) (107, I, J, mm_rf rv sp rr w nw) (fun v h => v = none ∧ h = (107, out, J, mm_rf rv sp rr w nw)) := by
  rcases hfo with rfl | rfl
  · unfold fX0_add at e
    refine mm_T.seg (f' := (8, [some (.ref 4), some (.int x1)], [(.ref (4 + 1)), (.int (I 4 3))])) (h' := (107, I, J, mm_rf rv sp rr w nw)) 4 rfl ?_
    refine mm_T.seg (f' := (9, [some (.ref 4), some (.int x1)], [(.int 300), (.int (I 4 3))])) (h' := (107, I, J, mm_rf rv sp rr w nw)) 1 rfl ?_
    refine mm_T.br (c := (I 4 3) < 300) (a := ((12, [some (.ref 4), some (.int x1)], []), (107, I, J, mm_rf rv sp rr w nw))) (b := ((32, [some (.ref 4), some (.int x1)], []), (107, I, J, mm_rf rv sp rr w nw))) rfl (fun h1294 => ?_) (fun h1294 => ?_)
    · rw [if_pos h1294] at e
      refine mm_T.seg (f' := (16, [some (.ref 4), some (.int x1)], [(.ref (4 + 1))])) (h' := (107, I, J, mm_rf rv sp rr w nw)) 2 rfl ?_
      refine mm_T.seg (f' := (21, [some (.ref 4), some (.int x1)], [(.int x1), (.int (I 4 3)), (.ref (4 + 1))])) (h' := (107, I, J, mm_rf rv sp rr w nw)) 3 rfl ?_
      by_cases h1295 : (I 4 3) < 0 ∨ 300 ≤ (I 4 3).toNatClampNeg
      · rw [if_pos h1295] at e; cases e
      rw [if_neg h1295] at e
      refine mm_T.guard (y := ((22, [some (.ref 4), some (.int x1)], []), (107, (mm_up I (4 + 1) (I 4 3).toNatClampNeg x1), J, mm_rf rv sp rr w nw))) rfl h1295 ?_
      refine mm_T.seg (f' := (32, [some (.ref 4), some (.int x1)], [])) (h' := (107, (mm_up (mm_up I (4 + 1) (I 4 3).toNatClampNeg x1) 4 3 ((I 4 3) + 1)), J, mm_rf rv sp rr w nw)) 6 rfl ?_
      cases e
      exact mm_T.ret rfl ⟨rfl, rfl⟩
    · rw [if_neg h1294] at e
      cases e
      exact mm_T.ret rfl ⟨rfl, rfl⟩
  · unfold fX0_add at e
    refine mm_T.seg (f' := (8, [some (.ref 20), some (.int x1)], [(.ref (20 + 1)), (.int (I 20 3))])) (h' := (107, I, J, mm_rf rv sp rr w nw)) 4 rfl ?_
    refine mm_T.seg (f' := (9, [some (.ref 20), some (.int x1)], [(.int 300), (.int (I 20 3))])) (h' := (107, I, J, mm_rf rv sp rr w nw)) 1 rfl ?_
    refine mm_T.br (c := (I 20 3) < 300) (a := ((12, [some (.ref 20), some (.int x1)], []), (107, I, J, mm_rf rv sp rr w nw))) (b := ((32, [some (.ref 20), some (.int x1)], []), (107, I, J, mm_rf rv sp rr w nw))) rfl (fun h1294 => ?_) (fun h1294 => ?_)
    · rw [if_pos h1294] at e
      refine mm_T.seg (f' := (16, [some (.ref 20), some (.int x1)], [(.ref (20 + 1))])) (h' := (107, I, J, mm_rf rv sp rr w nw)) 2 rfl ?_
      refine mm_T.seg (f' := (21, [some (.ref 20), some (.int x1)], [(.int x1), (.int (I 20 3)), (.ref (20 + 1))])) (h' := (107, I, J, mm_rf rv sp rr w nw)) 3 rfl ?_
      by_cases h1295 : (I 20 3) < 0 ∨ 300 ≤ (I 20 3).toNatClampNeg
      · rw [if_pos h1295] at e; cases e
      rw [if_neg h1295] at e
      refine mm_T.guard (y := ((22, [some (.ref 20), some (.int x1)], []), (107, (mm_up I (20 + 1) (I 20 3).toNatClampNeg x1), J, mm_rf rv sp rr w nw))) rfl h1295 ?_
      refine mm_T.seg (f' := (32, [some (.ref 20), some (.int x1)], [])) (h' := (107, (mm_up (mm_up I (20 + 1) (I 20 3).toNatClampNeg x1) 20 3 ((I 20 3) + 1)), J, mm_rf rv sp rr w nw)) 6 rfl ?_
      cases e
      exact mm_T.ret rfl ⟨rfl, rfl⟩
    · rw [if_neg h1294] at e
      cases e
      exact mm_T.ret rfl ⟨rfl, rfl⟩
set_option maxRecDepth 100000 in
set_option maxHeartbeats 4000000 in
theorem tX0_isTold (d : Nat) (fo : Nat) (I : Nat → Nat → Int32) (J : Nat → Nat → Int64) (rv sp rr w nw : Nat) (hfo : fo = 4 ∨ fo = 20) (out : Int32) (e : fX0_isTold fo I = out) : mm_T none (d + 0) 3 (mm_ent 3 [(.ref fo)]) (107, I, J, mm_rf rv sp rr w nw) (fun v h => v = some (.int out) ∧ h = (107, I, J, mm_rf rv sp rr w nw)) := by
  rcases hfo with rfl | rfl
  · unfold fX0_isTold at e
    refine mm_T.seg (f' := (4, [some (.ref 4)], [(.int (I 4 3))])) (h' := (107, I, J, mm_rf rv sp rr w nw)) 2 rfl ?_
    refine mm_T.br (c := 0 < (I 4 3)) (a := ((7, [some (.ref 4)], []), (107, I, J, mm_rf rv sp rr w nw))) (b := ((11, [some (.ref 4)], []), (107, I, J, mm_rf rv sp rr w nw))) rfl (fun h1296 => ?_) (fun h1296 => ?_)
    · rw [if_pos h1296] at e
      refine mm_T.seg (f' := (12, [some (.ref 4)], [(.int 1)])) (h' := (107, I, J, mm_rf rv sp rr w nw)) 2 rfl ?_
      cases e
      exact mm_T.ret rfl ⟨rfl, rfl⟩
    · rw [if_neg h1296] at e
      refine mm_T.seg (f' := (12, [some (.ref 4)], [(.int 0)])) (h' := (107, I, J, mm_rf rv sp rr w nw)) 1 rfl ?_
      cases e
      exact mm_T.ret rfl ⟨rfl, rfl⟩
  · unfold fX0_isTold at e
    refine mm_T.seg (f' := (4, [some (.ref 20)], [(.int (I 20 3))])) (h' := (107, I, J, mm_rf rv sp rr w nw)) 2 rfl ?_
    refine mm_T.br (c := 0 < (I 20 3)) (a := ((7, [some (.ref 20)], []), (107, I, J, mm_rf rv sp rr w nw))) (b := ((11, [some (.ref 20)], []), (107, I, J, mm_rf rv sp rr w nw))) rfl (fun h1296 => ?_) (fun h1296 => ?_)
    · rw [if_pos h1296] at e
      refine mm_T.seg (f' := (12, [some (.ref 20)], [(.int 1)])) (h' := (107, I, J, mm_rf rv sp rr w nw)) 2 rfl ?_
      cases e
      exact mm_T.ret rfl ⟨rfl, rfl⟩
    · rw [if_neg h1296] at e
      refine mm_T.seg (f' := (12, [some (.ref 20)], [(.int 0)])) (h' := (107, I, J, mm_rf rv sp rr w nw)) 1 rfl ?_
      cases e
      exact mm_T.ret rfl ⟨rfl, rfl⟩
set_option maxRecDepth 100000 in
set_option maxHeartbeats 4000000 in
theorem tX0_join (d : Nat) (x0 : Int32) (x1 : Int32) (x2 : Int32) (I : Nat → Nat → Int32) (J : Nat → Nat → Int64) (rv sp rr w nw : Nat) (out : Int32) (e : fX0_join x0 x1 x2 = some out) : mm_T none (d + 0) 5 (mm_ent 5 [(.int x0), (.int x1), (.int x2)]) (107, I, J, mm_rf rv sp rr w nw) (fun v h => v = some (.int out) ∧ h = (107, I, J, mm_rf rv sp rr w nw)) := by
  unfold fX0_join at e
  refine mm_T.seg (f' := (1, [some (.int x0), some (.int x1), some (.int x2)], [(.int x0)])) (h' := (107, I, J, mm_rf rv sp rr w nw)) 1 rfl ?_
  by_cases h1301 : x0 = (-17)
  · rw [if_pos h1301] at e
    refine mm_T.step (f' := (141, [some (.int x0), some (.int x1), some (.int x2)], [])) (h' := (107, I, J, mm_rf rv sp rr w nw)) (by first | (rw [h1301]; rfl) | exact absurd h1301 (by decide)) ?_
    refine mm_T.seg (f' := (142, [some (.int x0), some (.int x1), some (.int x2)], [(.int x2)])) (h' := (107, I, J, mm_rf rv sp rr w nw)) 1 rfl ?_
    refine mm_T.br (c := x2 = 0) (a := ((145, [some (.int x0), some (.int x1), some (.int x2)], []), (107, I, J, mm_rf rv sp rr w nw))) (b := ((149, [some (.int x0), some (.int x1), some (.int x2)], []), (107, I, J, mm_rf rv sp rr w nw))) rfl (fun h1302 => ?_) (fun h1302 => ?_)
    · rw [if_pos h1302] at e
      refine mm_T.seg (f' := (152, [some (.int x0), some (.int x1), some (.int x2)], [(.int 0)])) (h' := (107, I, J, mm_rf rv sp rr w nw)) 2 rfl ?_
      cases e
      exact mm_T.ret rfl ⟨rfl, rfl⟩
    · rw [if_neg h1302] at e
      refine mm_T.seg (f' := (151, [some (.int x0), some (.int x1), some (.int x2)], [(.int x2), (.int x1)])) (h' := (107, I, J, mm_rf rv sp rr w nw)) 2 rfl ?_
      by_cases h1303 : x2 = 0
      · rw [if_pos h1303] at e; cases e
      rw [if_neg h1303] at e
      refine mm_T.guard (y := ((152, [some (.int x0), some (.int x1), some (.int x2)], [(.int (x1 - x1 / x2 * x2))]), (107, I, J, mm_rf rv sp rr w nw))) rfl h1303 ?_
      cases e
      exact mm_T.ret rfl ⟨rfl, rfl⟩
  · rw [if_neg h1301] at e
    by_cases h1304 : x0 = (-16)
    · rw [if_pos h1304] at e
      refine mm_T.step (f' := (129, [some (.int x0), some (.int x1), some (.int x2)], [])) (h' := (107, I, J, mm_rf rv sp rr w nw)) (by first | (rw [h1304]; rfl) | exact absurd h1304 (by decide)) ?_
      refine mm_T.seg (f' := (130, [some (.int x0), some (.int x1), some (.int x2)], [(.int x2)])) (h' := (107, I, J, mm_rf rv sp rr w nw)) 1 rfl ?_
      refine mm_T.br (c := x2 = 0) (a := ((133, [some (.int x0), some (.int x1), some (.int x2)], []), (107, I, J, mm_rf rv sp rr w nw))) (b := ((137, [some (.int x0), some (.int x1), some (.int x2)], []), (107, I, J, mm_rf rv sp rr w nw))) rfl (fun h1305 => ?_) (fun h1305 => ?_)
      · rw [if_pos h1305] at e
        refine mm_T.seg (f' := (140, [some (.int x0), some (.int x1), some (.int x2)], [(.int 0)])) (h' := (107, I, J, mm_rf rv sp rr w nw)) 2 rfl ?_
        cases e
        exact mm_T.ret rfl ⟨rfl, rfl⟩
      · rw [if_neg h1305] at e
        refine mm_T.seg (f' := (139, [some (.int x0), some (.int x1), some (.int x2)], [(.int x2), (.int x1)])) (h' := (107, I, J, mm_rf rv sp rr w nw)) 2 rfl ?_
        by_cases h1306 : x2 = 0
        · rw [if_pos h1306] at e; cases e
        rw [if_neg h1306] at e
        refine mm_T.guard (y := ((140, [some (.int x0), some (.int x1), some (.int x2)], [(.int (x1 / x2))]), (107, I, J, mm_rf rv sp rr w nw))) rfl h1306 ?_
        cases e
        exact mm_T.ret rfl ⟨rfl, rfl⟩
    · rw [if_neg h1304] at e
      by_cases h1307 : x0 = (-15)
      · rw [if_pos h1307] at e
        refine mm_T.step (f' := (125, [some (.int x0), some (.int x1), some (.int x2)], [])) (h' := (107, I, J, mm_rf rv sp rr w nw)) (by first | (rw [h1307]; rfl) | exact absurd h1307 (by decide)) ?_
        refine mm_T.seg (f' := (128, [some (.int x0), some (.int x1), some (.int x2)], [(.int (x1 * x2))])) (h' := (107, I, J, mm_rf rv sp rr w nw)) 3 rfl ?_
        cases e
        exact mm_T.ret rfl ⟨rfl, rfl⟩
      · rw [if_neg h1307] at e
        by_cases h1308 : x0 = (-14)
        · rw [if_pos h1308] at e
          refine mm_T.step (f' := (121, [some (.int x0), some (.int x1), some (.int x2)], [])) (h' := (107, I, J, mm_rf rv sp rr w nw)) (by first | (rw [h1308]; rfl) | exact absurd h1308 (by decide)) ?_
          refine mm_T.seg (f' := (124, [some (.int x0), some (.int x1), some (.int x2)], [(.int (x1 - x2))])) (h' := (107, I, J, mm_rf rv sp rr w nw)) 3 rfl ?_
          cases e
          exact mm_T.ret rfl ⟨rfl, rfl⟩
        · rw [if_neg h1308] at e
          by_cases h1309 : x0 = (-13)
          · rw [if_pos h1309] at e
            refine mm_T.step (f' := (117, [some (.int x0), some (.int x1), some (.int x2)], [])) (h' := (107, I, J, mm_rf rv sp rr w nw)) (by first | (rw [h1309]; rfl) | exact absurd h1309 (by decide)) ?_
            refine mm_T.seg (f' := (120, [some (.int x0), some (.int x1), some (.int x2)], [(.int (x1 + x2))])) (h' := (107, I, J, mm_rf rv sp rr w nw)) 3 rfl ?_
            cases e
            exact mm_T.ret rfl ⟨rfl, rfl⟩
          · rw [if_neg h1309] at e
            by_cases h1310 : x0 = (-12)
            · rw [if_pos h1310] at e
              refine mm_T.step (f' := (106, [some (.int x0), some (.int x1), some (.int x2)], [])) (h' := (107, I, J, mm_rf rv sp rr w nw)) (by first | (rw [h1310]; rfl) | exact absurd h1310 (by decide)) ?_
              refine mm_T.seg (f' := (108, [some (.int x0), some (.int x1), some (.int x2)], [(.int x2), (.int x1)])) (h' := (107, I, J, mm_rf rv sp rr w nw)) 2 rfl ?_
              refine mm_T.br (c := x1 = x2) (a := ((111, [some (.int x0), some (.int x1), some (.int x2)], []), (107, I, J, mm_rf rv sp rr w nw))) (b := ((115, [some (.int x0), some (.int x1), some (.int x2)], []), (107, I, J, mm_rf rv sp rr w nw))) rfl (fun h1311 => ?_) (fun h1311 => ?_)
              · rw [if_pos h1311] at e
                refine mm_T.seg (f' := (116, [some (.int x0), some (.int x1), some (.int x2)], [(.int 1)])) (h' := (107, I, J, mm_rf rv sp rr w nw)) 2 rfl ?_
                cases e
                exact mm_T.ret rfl ⟨rfl, rfl⟩
              · rw [if_neg h1311] at e
                refine mm_T.seg (f' := (116, [some (.int x0), some (.int x1), some (.int x2)], [(.int 0)])) (h' := (107, I, J, mm_rf rv sp rr w nw)) 1 rfl ?_
                cases e
                exact mm_T.ret rfl ⟨rfl, rfl⟩
            · rw [if_neg h1310] at e
              by_cases h1312 : x0 = (-11)
              · rw [if_pos h1312] at e
                refine mm_T.step (f' := (95, [some (.int x0), some (.int x1), some (.int x2)], [])) (h' := (107, I, J, mm_rf rv sp rr w nw)) (by first | (rw [h1312]; rfl) | exact absurd h1312 (by decide)) ?_
                refine mm_T.seg (f' := (97, [some (.int x0), some (.int x1), some (.int x2)], [(.int x2), (.int x1)])) (h' := (107, I, J, mm_rf rv sp rr w nw)) 2 rfl ?_
                refine mm_T.br (c := x2 < x1) (a := ((100, [some (.int x0), some (.int x1), some (.int x2)], []), (107, I, J, mm_rf rv sp rr w nw))) (b := ((104, [some (.int x0), some (.int x1), some (.int x2)], []), (107, I, J, mm_rf rv sp rr w nw))) rfl (fun h1313 => ?_) (fun h1313 => ?_)
                · rw [if_pos h1313] at e
                  refine mm_T.seg (f' := (105, [some (.int x0), some (.int x1), some (.int x2)], [(.int 1)])) (h' := (107, I, J, mm_rf rv sp rr w nw)) 2 rfl ?_
                  cases e
                  exact mm_T.ret rfl ⟨rfl, rfl⟩
                · rw [if_neg h1313] at e
                  refine mm_T.seg (f' := (105, [some (.int x0), some (.int x1), some (.int x2)], [(.int 0)])) (h' := (107, I, J, mm_rf rv sp rr w nw)) 1 rfl ?_
                  cases e
                  exact mm_T.ret rfl ⟨rfl, rfl⟩
              · rw [if_neg h1312] at e
                by_cases h1314 : x0 = (-10)
                · rw [if_pos h1314] at e
                  refine mm_T.step (f' := (84, [some (.int x0), some (.int x1), some (.int x2)], [])) (h' := (107, I, J, mm_rf rv sp rr w nw)) (by first | (rw [h1314]; rfl) | exact absurd h1314 (by decide)) ?_
                  refine mm_T.seg (f' := (86, [some (.int x0), some (.int x1), some (.int x2)], [(.int x2), (.int x1)])) (h' := (107, I, J, mm_rf rv sp rr w nw)) 2 rfl ?_
                  refine mm_T.br (c := x1 < x2) (a := ((89, [some (.int x0), some (.int x1), some (.int x2)], []), (107, I, J, mm_rf rv sp rr w nw))) (b := ((93, [some (.int x0), some (.int x1), some (.int x2)], []), (107, I, J, mm_rf rv sp rr w nw))) rfl (fun h1315 => ?_) (fun h1315 => ?_)
                  · rw [if_pos h1315] at e
                    refine mm_T.seg (f' := (94, [some (.int x0), some (.int x1), some (.int x2)], [(.int 1)])) (h' := (107, I, J, mm_rf rv sp rr w nw)) 2 rfl ?_
                    cases e
                    exact mm_T.ret rfl ⟨rfl, rfl⟩
                  · rw [if_neg h1315] at e
                    refine mm_T.seg (f' := (94, [some (.int x0), some (.int x1), some (.int x2)], [(.int 0)])) (h' := (107, I, J, mm_rf rv sp rr w nw)) 1 rfl ?_
                    cases e
                    exact mm_T.ret rfl ⟨rfl, rfl⟩
                · rw [if_neg h1314] at e
                  by_cases h1316 : x0 = (-9)
                  · rw [if_pos h1316] at e
                    refine mm_T.step (f' := (70, [some (.int x0), some (.int x1), some (.int x2)], [])) (h' := (107, I, J, mm_rf rv sp rr w nw)) (by first | (rw [h1316]; rfl) | exact absurd h1316 (by decide)) ?_
                    refine mm_T.seg (f' := (71, [some (.int x0), some (.int x1), some (.int x2)], [(.int x1)])) (h' := (107, I, J, mm_rf rv sp rr w nw)) 1 rfl ?_
                    refine mm_T.br (c := x1 = 0) (a := ((82, [some (.int x0), some (.int x1), some (.int x2)], []), (107, I, J, mm_rf rv sp rr w nw))) (b := ((74, [some (.int x0), some (.int x1), some (.int x2)], []), (107, I, J, mm_rf rv sp rr w nw))) rfl (fun h1317 => ?_) (fun h1317 => ?_)
                    · rw [if_pos h1317] at e
                      refine mm_T.seg (f' := (83, [some (.int x0), some (.int x1), some (.int x2)], [(.int 0)])) (h' := (107, I, J, mm_rf rv sp rr w nw)) 1 rfl ?_
                      cases e
                      exact mm_T.ret rfl ⟨rfl, rfl⟩
                    · rw [if_neg h1317] at e
                      refine mm_T.seg (f' := (75, [some (.int x0), some (.int x1), some (.int x2)], [(.int x2)])) (h' := (107, I, J, mm_rf rv sp rr w nw)) 1 rfl ?_
                      refine mm_T.br (c := x2 = 0) (a := ((82, [some (.int x0), some (.int x1), some (.int x2)], []), (107, I, J, mm_rf rv sp rr w nw))) (b := ((78, [some (.int x0), some (.int x1), some (.int x2)], []), (107, I, J, mm_rf rv sp rr w nw))) rfl (fun h1318 => ?_) (fun h1318 => ?_)
                      · rw [if_pos h1318] at e
                        refine mm_T.seg (f' := (83, [some (.int x0), some (.int x1), some (.int x2)], [(.int 0)])) (h' := (107, I, J, mm_rf rv sp rr w nw)) 1 rfl ?_
                        cases e
                        exact mm_T.ret rfl ⟨rfl, rfl⟩
                      · rw [if_neg h1318] at e
                        refine mm_T.seg (f' := (83, [some (.int x0), some (.int x1), some (.int x2)], [(.int 1)])) (h' := (107, I, J, mm_rf rv sp rr w nw)) 2 rfl ?_
                        cases e
                        exact mm_T.ret rfl ⟨rfl, rfl⟩
                  · rw [if_neg h1316] at e
                    by_cases h1319 : x0 = (-8)
                    · rw [if_pos h1319] at e
                      refine mm_T.step (f' := (56, [some (.int x0), some (.int x1), some (.int x2)], [])) (h' := (107, I, J, mm_rf rv sp rr w nw)) (by first | (rw [h1319]; rfl) | exact absurd h1319 (by decide)) ?_
                      refine mm_T.seg (f' := (57, [some (.int x0), some (.int x1), some (.int x2)], [(.int x1)])) (h' := (107, I, J, mm_rf rv sp rr w nw)) 1 rfl ?_
                      refine mm_T.br (c := x1 = 0) (a := ((60, [some (.int x0), some (.int x1), some (.int x2)], []), (107, I, J, mm_rf rv sp rr w nw))) (b := ((64, [some (.int x0), some (.int x1), some (.int x2)], []), (107, I, J, mm_rf rv sp rr w nw))) rfl (fun h1320 => ?_) (fun h1320 => ?_)
                      · rw [if_pos h1320] at e
                        refine mm_T.seg (f' := (61, [some (.int x0), some (.int x1), some (.int x2)], [(.int x2)])) (h' := (107, I, J, mm_rf rv sp rr w nw)) 1 rfl ?_
                        refine mm_T.br (c := x2 = 0) (a := ((68, [some (.int x0), some (.int x1), some (.int x2)], []), (107, I, J, mm_rf rv sp rr w nw))) (b := ((64, [some (.int x0), some (.int x1), some (.int x2)], []), (107, I, J, mm_rf rv sp rr w nw))) rfl (fun h1321 => ?_) (fun h1321 => ?_)
                        · rw [if_pos h1321] at e
                          refine mm_T.seg (f' := (69, [some (.int x0), some (.int x1), some (.int x2)], [(.int 0)])) (h' := (107, I, J, mm_rf rv sp rr w nw)) 1 rfl ?_
                          cases e
                          exact mm_T.ret rfl ⟨rfl, rfl⟩
                        · rw [if_neg h1321] at e
                          refine mm_T.seg (f' := (69, [some (.int x0), some (.int x1), some (.int x2)], [(.int 1)])) (h' := (107, I, J, mm_rf rv sp rr w nw)) 2 rfl ?_
                          cases e
                          exact mm_T.ret rfl ⟨rfl, rfl⟩
                      · rw [if_neg h1320] at e
                        refine mm_T.seg (f' := (69, [some (.int x0), some (.int x1), some (.int x2)], [(.int 1)])) (h' := (107, I, J, mm_rf rv sp rr w nw)) 2 rfl ?_
                        cases e
                        exact mm_T.ret rfl ⟨rfl, rfl⟩
                    · rw [if_neg h1319] at e
                      refine mm_T.tabs (lo := -17) (hi := -8) (y := ((153, [some (.int x0), some (.int x1), some (.int x2)], []), (107, I, J, mm_rf rv sp rr w nw))) rfl (mm_swo (-17) (-8) x0 [(-17), (-16), (-15), (-14), (-13), (-12), (-11), (-10), (-9), (-8)] (by decide) (by intro z hz; simp only [List.mem_cons, List.not_mem_nil, or_false] at hz; rcases hz with rfl | rfl | rfl | rfl | rfl | rfl | rfl | rfl | rfl | rfl <;> first | assumption | decide)) ?_
                      refine mm_T.seg (f' := (154, [some (.int x0), some (.int x1), some (.int x2)], [(.int 0)])) (h' := (107, I, J, mm_rf rv sp rr w nw)) 1 rfl ?_
                      cases e
                      exact mm_T.ret rfl ⟨rfl, rfl⟩
set_option maxRecDepth 100000 in
set_option maxHeartbeats 4000000 in
theorem tlX0_value_L51 (d : Nat) (Q : Option Value → mm_H → Prop) : ∀ (n : Nat) (y7 : Int32) (y8 : Int32) (fo : Nat) (I : Nat → Nat → Int32) (J : Nat → Nat → Int64) (rv sp rr w nw : Nat), (fo = 4 ∨ fo = 20) → ∀ (out : (Nat → Nat → Int32)), fX0_value_L51 n y7 y8 fo I = some out → mm_T none (d + 1) 4 (199, [some (.ref fo), none, none, none, none, none, none, none, none, none], []) (107, out, J, mm_rf rv sp rr w nw) Q → mm_T none (d + 1) 4 (51, [some (.ref fo), none, none, none, none, none, none, some (.int y7), some (.int y8), none], []) (107, I, J, mm_rf rv sp rr w nw) Q := by
  intro n
  induction n with
  | zero =>
    intro y7 y8 fo I J rv sp rr w nw hfo out e k
    rw [fX0_value_L51] at e; cases e
  | succ n ih =>
    intro y7 y8 fo I J rv sp rr w nw hfo out e k
    rcases hfo with rfl | rfl
    · rw [fX0_value_L51] at e
      refine mm_T.seg (f' := (57, [some (.ref 4), none, none, none, none, none, none, some (.int y7), some (.int y8), none], [(.int (I 4 3)), (.int y8)])) (h' := (107, I, J, mm_rf rv sp rr w nw)) 3 rfl ?_
      refine mm_T.br (c := y8 < (I 4 3)) (a := ((60, [some (.ref 4), none, none, none, none, none, none, some (.int y7), some (.int y8), none], []), (107, I, J, mm_rf rv sp rr w nw))) (b := ((199, [some (.ref 4), none, none, none, none, none, none, some (.int y7), some (.int y8), none], []), (107, I, J, mm_rf rv sp rr w nw))) rfl (fun h1297 => ?_) (fun h1297 => ?_)
      · rw [if_pos h1297] at e
        refine mm_T.seg (f' := (64, [some (.ref 4), none, none, none, none, none, none, some (.int y7), some (.int y8), none], [(.ref (4 + 1))])) (h' := (107, I, J, mm_rf rv sp rr w nw)) 2 rfl ?_
        refine mm_T.seg (f' := (66, [some (.ref 4), none, none, none, none, none, none, some (.int y7), some (.int y8), none], [(.int y8), (.ref (4 + 1))])) (h' := (107, I, J, mm_rf rv sp rr w nw)) 1 rfl ?_
        refine mm_T.call (t := 204) (as := [(.ref (4 + 1)), (.int y8)]) (f' := (69, [some (.ref 4), none, none, none, none, none, none, some (.int y7), some (.int y8), none], [])) rfl (t_pick _ (4 + 1) 300 y8 I J (mm_rf rv sp rr w nw) rfl rfl) (fun v h hq => ?_)
        obtain ⟨rfl, rfl⟩ := hq
        refine mm_T.seg (f' := (75, [some (.ref 4), none, none, none, none, none, none, some (.int y7), some (.int y8), some (.int (mf_pick I (4 + 1) 300 y8))], [(.int (-6)), (.int (mf_pick I (4 + 1) 300 y8))])) (h' := (107, I, J, mm_rf rv sp rr w nw)) 3 rfl ?_
        refine mm_T.br (c := (mf_pick I (4 + 1) 300 y8) < (-6)) (a := ((114, [some (.ref 4), none, none, none, none, none, none, some (.int y7), some (.int y8), some (.int (mf_pick I (4 + 1) 300 y8))], []), (107, I, J, mm_rf rv sp rr w nw))) (b := ((78, [some (.ref 4), none, none, none, none, none, none, some (.int y7), some (.int y8), some (.int (mf_pick I (4 + 1) 300 y8))], []), (107, I, J, mm_rf rv sp rr w nw))) rfl (fun h1298 => ?_) (fun h1298 => ?_)
        · rw [if_pos h1298] at e
          refine mm_T.seg (f' := (118, [some (.ref 4), none, none, none, none, none, none, some (.int y7), some (.int y8), some (.int (mf_pick I (4 + 1) 300 y8))], [(.int (-7)), (.int (mf_pick I (4 + 1) 300 y8))])) (h' := (107, I, J, mm_rf rv sp rr w nw)) 2 rfl ?_
          refine mm_T.br (c := (mf_pick I (4 + 1) 300 y8) = (-7)) (a := ((121, [some (.ref 4), none, none, none, none, none, none, some (.int y7), some (.int y8), some (.int (mf_pick I (4 + 1) 300 y8))], []), (107, I, J, mm_rf rv sp rr w nw))) (b := ((154, [some (.ref 4), none, none, none, none, none, none, some (.int y7), some (.int y8), some (.int (mf_pick I (4 + 1) 300 y8))], []), (107, I, J, mm_rf rv sp rr w nw))) rfl (fun h1299 => ?_) (fun h1299 => ?_)
          · rw [if_pos h1299] at e
            refine mm_T.seg (f' := (125, [some (.ref 4), none, none, none, none, none, none, some (.int y7), some (.int y8), some (.int (mf_pick I (4 + 1) 300 y8))], [(.ref (4 + 3))])) (h' := (107, I, J, mm_rf rv sp rr w nw)) 2 rfl ?_
            refine mm_T.seg (f' := (133, [some (.ref 4), none, none, none, none, none, none, some (.int y7), some (.int y8), some (.int (mf_pick I (4 + 1) 300 y8))], [(.ref (4 + 3)), (.int (y7 - 1)), (.ref (4 + 3))])) (h' := (107, I, J, mm_rf rv sp rr w nw)) 5 rfl ?_
            refine mm_T.seg (f' := (137, [some (.ref 4), none, none, none, none, none, none, some (.int y7), some (.int y8), some (.int (mf_pick I (4 + 1) 300 y8))], [(.int (y7 - 1)), (.ref (4 + 3)), (.int (y7 - 1)), (.ref (4 + 3))])) (h' := (107, I, J, mm_rf rv sp rr w nw)) 3 rfl ?_
            refine mm_T.call (t := 204) (as := [(.ref (4 + 3)), (.int (y7 - 1))]) (f' := (140, [some (.ref 4), none, none, none, none, none, none, some (.int y7), some (.int y8), some (.int (mf_pick I (4 + 1) 300 y8))], [(.int (y7 - 1)), (.ref (4 + 3))])) rfl (t_pick _ (4 + 3) 32 (y7 - 1) I J (mm_rf rv sp rr w nw) rfl rfl) (fun v h hq => ?_)
            obtain ⟨rfl, rfl⟩ := hq
            refine mm_T.br (c := (mf_pick I (4 + 3) 32 (y7 - 1)) = 0) (a := ((143, [some (.ref 4), none, none, none, none, none, none, some (.int y7), some (.int y8), some (.int (mf_pick I (4 + 1) 300 y8))], [(.int (y7 - 1)), (.ref (4 + 3))]), (107, I, J, mm_rf rv sp rr w nw))) (b := ((147, [some (.ref 4), none, none, none, none, none, none, some (.int y7), some (.int y8), some (.int (mf_pick I (4 + 1) 300 y8))], [(.int (y7 - 1)), (.ref (4 + 3))]), (107, I, J, mm_rf rv sp rr w nw))) rfl (fun h1300 => ?_) (fun h1300 => ?_)
            · rw [if_pos h1300] at e
              refine mm_T.seg (f' := (148, [some (.ref 4), none, none, none, none, none, none, some (.int y7), some (.int y8), some (.int (mf_pick I (4 + 1) 300 y8))], [(.int 1), (.int (y7 - 1)), (.ref (4 + 3))])) (h' := (107, I, J, mm_rf rv sp rr w nw)) 2 rfl ?_
              refine mm_T.call (t := 205) (as := [(.ref (4 + 3)), (.int (y7 - 1)), (.int 1)]) (f' := (151, [some (.ref 4), none, none, none, none, none, none, some (.int y7), some (.int y8), some (.int (mf_pick I (4 + 1) 300 y8))], [])) rfl (t_put _ (4 + 3) 32 (y7 - 1) 1 I J (mm_rf rv sp rr w nw) rfl rfl) (fun v h hq => ?_)
              obtain ⟨rfl, rfl⟩ := hq
              refine mm_T.seg (f' := (51, [some (.ref 4), none, none, none, none, none, none, some (.int y7), some (.int (y8 + 1)), some (.int (mf_pick I (4 + 1) 300 y8))], [])) (h' := (107, (mf_put I (4 + 3) 32 (y7 - 1) 1), J, mm_rf rv sp rr w nw)) 3 rfl ?_
              refine mm_T.mask [true, false, false, false, false, false, false, true, true, false] ?_
              exact ih y7 (y8 + 1) 4 (mf_put I (4 + 3) 32 (y7 - 1) 1) J rv sp rr w nw (Or.inl rfl) out e k
            · rw [if_neg h1300] at e
              refine mm_T.seg (f' := (148, [some (.ref 4), none, none, none, none, none, none, some (.int y7), some (.int y8), some (.int (mf_pick I (4 + 1) 300 y8))], [(.int 0), (.int (y7 - 1)), (.ref (4 + 3))])) (h' := (107, I, J, mm_rf rv sp rr w nw)) 1 rfl ?_
              refine mm_T.call (t := 205) (as := [(.ref (4 + 3)), (.int (y7 - 1)), (.int 0)]) (f' := (151, [some (.ref 4), none, none, none, none, none, none, some (.int y7), some (.int y8), some (.int (mf_pick I (4 + 1) 300 y8))], [])) rfl (t_put _ (4 + 3) 32 (y7 - 1) 0 I J (mm_rf rv sp rr w nw) rfl rfl) (fun v h hq => ?_)
              obtain ⟨rfl, rfl⟩ := hq
              refine mm_T.seg (f' := (51, [some (.ref 4), none, none, none, none, none, none, some (.int y7), some (.int (y8 + 1)), some (.int (mf_pick I (4 + 1) 300 y8))], [])) (h' := (107, (mf_put I (4 + 3) 32 (y7 - 1) 0), J, mm_rf rv sp rr w nw)) 3 rfl ?_
              refine mm_T.mask [true, false, false, false, false, false, false, true, true, false] ?_
              exact ih y7 (y8 + 1) 4 (mf_put I (4 + 3) 32 (y7 - 1) 0) J rv sp rr w nw (Or.inl rfl) out e k
          · rw [if_neg h1299] at e
            refine mm_T.seg (f' := (161, [some (.ref 4), none, none, none, none, none, none, some (.int (y7 + (-1))), some (.int y8), some (.int (mf_pick I (4 + 1) 300 y8))], [(.ref (4 + 3))])) (h' := (107, I, J, mm_rf rv sp rr w nw)) 3 rfl ?_
            refine mm_T.seg (f' := (171, [some (.ref 4), none, none, none, none, none, none, some (.int (y7 + (-1))), some (.int y8), some (.int (mf_pick I (4 + 1) 300 y8))], [(.ref (4 + 3)), (.int (mf_pick I (4 + 1) 300 y8)), (.int ((y7 + (-1)) - 1)), (.ref (4 + 3))])) (h' := (107, I, J, mm_rf rv sp rr w nw)) 6 rfl ?_
            refine mm_T.seg (f' := (175, [some (.ref 4), none, none, none, none, none, none, some (.int (y7 + (-1))), some (.int y8), some (.int (mf_pick I (4 + 1) 300 y8))], [(.int ((y7 + (-1)) - 1)), (.ref (4 + 3)), (.int (mf_pick I (4 + 1) 300 y8)), (.int ((y7 + (-1)) - 1)), (.ref (4 + 3))])) (h' := (107, I, J, mm_rf rv sp rr w nw)) 3 rfl ?_
            refine mm_T.call (t := 204) (as := [(.ref (4 + 3)), (.int ((y7 + (-1)) - 1))]) (f' := (178, [some (.ref 4), none, none, none, none, none, none, some (.int (y7 + (-1))), some (.int y8), some (.int (mf_pick I (4 + 1) 300 y8))], [(.int (mf_pick I (4 + 1) 300 y8)), (.int ((y7 + (-1)) - 1)), (.ref (4 + 3))])) rfl (t_pick _ (4 + 3) 32 ((y7 + (-1)) - 1) I J (mm_rf rv sp rr w nw) rfl rfl) (fun v h hq => ?_)
            obtain ⟨rfl, rfl⟩ := hq
            refine mm_T.seg (f' := (182, [some (.ref 4), none, none, none, none, none, none, some (.int (y7 + (-1))), some (.int y8), some (.int (mf_pick I (4 + 1) 300 y8))], [(.ref (4 + 3)), (.int (mf_pick I (4 + 3) 32 ((y7 + (-1)) - 1))), (.int (mf_pick I (4 + 1) 300 y8)), (.int ((y7 + (-1)) - 1)), (.ref (4 + 3))])) (h' := (107, I, J, mm_rf rv sp rr w nw)) 2 rfl ?_
            refine mm_T.seg (f' := (184, [some (.ref 4), none, none, none, none, none, none, some (.int (y7 + (-1))), some (.int y8), some (.int (mf_pick I (4 + 1) 300 y8))], [(.int (y7 + (-1))), (.ref (4 + 3)), (.int (mf_pick I (4 + 3) 32 ((y7 + (-1)) - 1))), (.int (mf_pick I (4 + 1) 300 y8)), (.int ((y7 + (-1)) - 1)), (.ref (4 + 3))])) (h' := (107, I, J, mm_rf rv sp rr w nw)) 1 rfl ?_
            refine mm_T.call (t := 204) (as := [(.ref (4 + 3)), (.int (y7 + (-1)))]) (f' := (187, [some (.ref 4), none, none, none, none, none, none, some (.int (y7 + (-1))), some (.int y8), some (.int (mf_pick I (4 + 1) 300 y8))], [(.int (mf_pick I (4 + 3) 32 ((y7 + (-1)) - 1))), (.int (mf_pick I (4 + 1) 300 y8)), (.int ((y7 + (-1)) - 1)), (.ref (4 + 3))])) rfl (t_pick _ (4 + 3) 32 (y7 + (-1)) I J (mm_rf rv sp rr w nw) rfl rfl) (fun v h hq => ?_)
            obtain ⟨rfl, rfl⟩ := hq
            obtain ⟨o1322, eo1322, e⟩ := mm_bind e
            refine mm_T.call (t := 5) (as := [(.int (mf_pick I (4 + 1) 300 y8)), (.int (mf_pick I (4 + 3) 32 ((y7 + (-1)) - 1))), (.int (mf_pick I (4 + 3) 32 (y7 + (-1))))]) (f' := (190, [some (.ref 4), none, none, none, none, none, none, some (.int (y7 + (-1))), some (.int y8), some (.int (mf_pick I (4 + 1) 300 y8))], [(.int ((y7 + (-1)) - 1)), (.ref (4 + 3))])) rfl (tX0_join (d + 0) (mf_pick I (4 + 1) 300 y8) (mf_pick I (4 + 3) 32 ((y7 + (-1)) - 1)) (mf_pick I (4 + 3) 32 (y7 + (-1))) I J rv sp rr w nw o1322 eo1322) (fun v h hq => ?_)
            obtain ⟨rfl, rfl⟩ := hq
            refine mm_T.call (t := 205) (as := [(.ref (4 + 3)), (.int ((y7 + (-1)) - 1)), (.int o1322)]) (f' := (193, [some (.ref 4), none, none, none, none, none, none, some (.int (y7 + (-1))), some (.int y8), some (.int (mf_pick I (4 + 1) 300 y8))], [])) rfl (t_put _ (4 + 3) 32 ((y7 + (-1)) - 1) o1322 I J (mm_rf rv sp rr w nw) rfl rfl) (fun v h hq => ?_)
            obtain ⟨rfl, rfl⟩ := hq
            refine mm_T.seg (f' := (51, [some (.ref 4), none, none, none, none, none, none, some (.int (y7 + (-1))), some (.int (y8 + 1)), some (.int (mf_pick I (4 + 1) 300 y8))], [])) (h' := (107, (mf_put I (4 + 3) 32 ((y7 + (-1)) - 1) o1322), J, mm_rf rv sp rr w nw)) 2 rfl ?_
            refine mm_T.mask [true, false, false, false, false, false, false, true, true, false] ?_
            exact ih (y7 + (-1)) (y8 + 1) 4 (mf_put I (4 + 3) 32 ((y7 + (-1)) - 1) o1322) J rv sp rr w nw (Or.inl rfl) out e k
        · rw [if_neg h1298] at e
          refine mm_T.seg (f' := (82, [some (.ref 4), none, none, none, none, none, none, some (.int y7), some (.int y8), some (.int (mf_pick I (4 + 1) 300 y8))], [(.ref (4 + 3))])) (h' := (107, I, J, mm_rf rv sp rr w nw)) 2 rfl ?_
          refine mm_T.seg (f' := (86, [some (.ref 4), none, none, none, none, none, none, some (.int y7), some (.int y8), some (.int (mf_pick I (4 + 1) 300 y8))], [(.int (mf_pick I (4 + 1) 300 y8)), (.int y7), (.ref (4 + 3))])) (h' := (107, I, J, mm_rf rv sp rr w nw)) 2 rfl ?_
          refine mm_T.br (c := (mf_pick I (4 + 1) 300 y8) < 0) (a := ((94, [some (.ref 4), none, none, none, none, none, none, some (.int y7), some (.int y8), some (.int (mf_pick I (4 + 1) 300 y8))], [(.int y7), (.ref (4 + 3))]), (107, I, J, mm_rf rv sp rr w nw))) (b := ((89, [some (.ref 4), none, none, none, none, none, none, some (.int y7), some (.int y8), some (.int (mf_pick I (4 + 1) 300 y8))], [(.int y7), (.ref (4 + 3))]), (107, I, J, mm_rf rv sp rr w nw))) rfl (fun h1323 => ?_) (fun h1323 => ?_)
          · rw [if_pos h1323] at e
            refine mm_T.seg (f' := (98, [some (.ref 4), none, none, none, none, none, none, some (.int y7), some (.int y8), some (.int (mf_pick I (4 + 1) 300 y8))], [(.ref (4 + 2)), (.int y7), (.ref (4 + 3))])) (h' := (107, I, J, mm_rf rv sp rr w nw)) 2 rfl ?_
            refine mm_T.seg (f' := (102, [some (.ref 4), none, none, none, none, none, none, some (.int y7), some (.int y8), some (.int (mf_pick I (4 + 1) 300 y8))], [(.int ((-1) - (mf_pick I (4 + 1) 300 y8))), (.ref (4 + 2)), (.int y7), (.ref (4 + 3))])) (h' := (107, I, J, mm_rf rv sp rr w nw)) 3 rfl ?_
            refine mm_T.call (t := 204) (as := [(.ref (4 + 2)), (.int ((-1) - (mf_pick I (4 + 1) 300 y8)))]) (f' := (105, [some (.ref 4), none, none, none, none, none, none, some (.int y7), some (.int y8), some (.int (mf_pick I (4 + 1) 300 y8))], [(.int y7), (.ref (4 + 3))])) rfl (t_pick _ (4 + 2) 6 ((-1) - (mf_pick I (4 + 1) 300 y8)) I J (mm_rf rv sp rr w nw) rfl rfl) (fun v h hq => ?_)
            obtain ⟨rfl, rfl⟩ := hq
            refine mm_T.call (t := 205) (as := [(.ref (4 + 3)), (.int y7), (.int (mf_pick I (4 + 2) 6 ((-1) - (mf_pick I (4 + 1) 300 y8))))]) (f' := (108, [some (.ref 4), none, none, none, none, none, none, some (.int y7), some (.int y8), some (.int (mf_pick I (4 + 1) 300 y8))], [])) rfl (t_put _ (4 + 3) 32 y7 (mf_pick I (4 + 2) 6 ((-1) - (mf_pick I (4 + 1) 300 y8))) I J (mm_rf rv sp rr w nw) rfl rfl) (fun v h hq => ?_)
            obtain ⟨rfl, rfl⟩ := hq
            refine mm_T.seg (f' := (51, [some (.ref 4), none, none, none, none, none, none, some (.int (y7 + 1)), some (.int (y8 + 1)), some (.int (mf_pick I (4 + 1) 300 y8))], [])) (h' := (107, (mf_put I (4 + 3) 32 y7 (mf_pick I (4 + 2) 6 ((-1) - (mf_pick I (4 + 1) 300 y8)))), J, mm_rf rv sp rr w nw)) 4 rfl ?_
            refine mm_T.mask [true, false, false, false, false, false, false, true, true, false] ?_
            exact ih (y7 + 1) (y8 + 1) 4 (mf_put I (4 + 3) 32 y7 (mf_pick I (4 + 2) 6 ((-1) - (mf_pick I (4 + 1) 300 y8)))) J rv sp rr w nw (Or.inl rfl) out e k
          · rw [if_neg h1323] at e
            refine mm_T.seg (f' := (105, [some (.ref 4), none, none, none, none, none, none, some (.int y7), some (.int y8), some (.int (mf_pick I (4 + 1) 300 y8))], [(.int (mf_pick I (4 + 1) 300 y8)), (.int y7), (.ref (4 + 3))])) (h' := (107, I, J, mm_rf rv sp rr w nw)) 2 rfl ?_
            refine mm_T.call (t := 205) (as := [(.ref (4 + 3)), (.int y7), (.int (mf_pick I (4 + 1) 300 y8))]) (f' := (108, [some (.ref 4), none, none, none, none, none, none, some (.int y7), some (.int y8), some (.int (mf_pick I (4 + 1) 300 y8))], [])) rfl (t_put _ (4 + 3) 32 y7 (mf_pick I (4 + 1) 300 y8) I J (mm_rf rv sp rr w nw) rfl rfl) (fun v h hq => ?_)
            obtain ⟨rfl, rfl⟩ := hq
            refine mm_T.seg (f' := (51, [some (.ref 4), none, none, none, none, none, none, some (.int (y7 + 1)), some (.int (y8 + 1)), some (.int (mf_pick I (4 + 1) 300 y8))], [])) (h' := (107, (mf_put I (4 + 3) 32 y7 (mf_pick I (4 + 1) 300 y8)), J, mm_rf rv sp rr w nw)) 4 rfl ?_
            refine mm_T.mask [true, false, false, false, false, false, false, true, true, false] ?_
            exact ih (y7 + 1) (y8 + 1) 4 (mf_put I (4 + 3) 32 y7 (mf_pick I (4 + 1) 300 y8)) J rv sp rr w nw (Or.inl rfl) out e k
      · rw [if_neg h1297] at e
        cases e
        refine mm_T.mask [true, false, false, false, false, false, false, false, false, false] ?_
        exact k
    · rw [fX0_value_L51] at e
      refine mm_T.seg (f' := (57, [some (.ref 20), none, none, none, none, none, none, some (.int y7), some (.int y8), none], [(.int (I 20 3)), (.int y8)])) (h' := (107, I, J, mm_rf rv sp rr w nw)) 3 rfl ?_
      refine mm_T.br (c := y8 < (I 20 3)) (a := ((60, [some (.ref 20), none, none, none, none, none, none, some (.int y7), some (.int y8), none], []), (107, I, J, mm_rf rv sp rr w nw))) (b := ((199, [some (.ref 20), none, none, none, none, none, none, some (.int y7), some (.int y8), none], []), (107, I, J, mm_rf rv sp rr w nw))) rfl (fun h1297 => ?_) (fun h1297 => ?_)
      · rw [if_pos h1297] at e
        refine mm_T.seg (f' := (64, [some (.ref 20), none, none, none, none, none, none, some (.int y7), some (.int y8), none], [(.ref (20 + 1))])) (h' := (107, I, J, mm_rf rv sp rr w nw)) 2 rfl ?_
        refine mm_T.seg (f' := (66, [some (.ref 20), none, none, none, none, none, none, some (.int y7), some (.int y8), none], [(.int y8), (.ref (20 + 1))])) (h' := (107, I, J, mm_rf rv sp rr w nw)) 1 rfl ?_
        refine mm_T.call (t := 204) (as := [(.ref (20 + 1)), (.int y8)]) (f' := (69, [some (.ref 20), none, none, none, none, none, none, some (.int y7), some (.int y8), none], [])) rfl (t_pick _ (20 + 1) 300 y8 I J (mm_rf rv sp rr w nw) rfl rfl) (fun v h hq => ?_)
        obtain ⟨rfl, rfl⟩ := hq
        refine mm_T.seg (f' := (75, [some (.ref 20), none, none, none, none, none, none, some (.int y7), some (.int y8), some (.int (mf_pick I (20 + 1) 300 y8))], [(.int (-6)), (.int (mf_pick I (20 + 1) 300 y8))])) (h' := (107, I, J, mm_rf rv sp rr w nw)) 3 rfl ?_
        refine mm_T.br (c := (mf_pick I (20 + 1) 300 y8) < (-6)) (a := ((114, [some (.ref 20), none, none, none, none, none, none, some (.int y7), some (.int y8), some (.int (mf_pick I (20 + 1) 300 y8))], []), (107, I, J, mm_rf rv sp rr w nw))) (b := ((78, [some (.ref 20), none, none, none, none, none, none, some (.int y7), some (.int y8), some (.int (mf_pick I (20 + 1) 300 y8))], []), (107, I, J, mm_rf rv sp rr w nw))) rfl (fun h1298 => ?_) (fun h1298 => ?_)
        · rw [if_pos h1298] at e
          refine mm_T.seg (f' := (118, [some (.ref 20), none, none, none, none, none, none, some (.int y7), some (.int y8), some (.int (mf_pick I (20 + 1) 300 y8))], [(.int (-7)), (.int (mf_pick I (20 + 1) 300 y8))])) (h' := (107, I, J, mm_rf rv sp rr w nw)) 2 rfl ?_
          refine mm_T.br (c := (mf_pick I (20 + 1) 300 y8) = (-7)) (a := ((121, [some (.ref 20), none, none, none, none, none, none, some (.int y7), some (.int y8), some (.int (mf_pick I (20 + 1) 300 y8))], []), (107, I, J, mm_rf rv sp rr w nw))) (b := ((154, [some (.ref 20), none, none, none, none, none, none, some (.int y7), some (.int y8), some (.int (mf_pick I (20 + 1) 300 y8))], []), (107, I, J, mm_rf rv sp rr w nw))) rfl (fun h1299 => ?_) (fun h1299 => ?_)
          · rw [if_pos h1299] at e
            refine mm_T.seg (f' := (125, [some (.ref 20), none, none, none, none, none, none, some (.int y7), some (.int y8), some (.int (mf_pick I (20 + 1) 300 y8))], [(.ref (20 + 3))])) (h' := (107, I, J, mm_rf rv sp rr w nw)) 2 rfl ?_
            refine mm_T.seg (f' := (133, [some (.ref 20), none, none, none, none, none, none, some (.int y7), some (.int y8), some (.int (mf_pick I (20 + 1) 300 y8))], [(.ref (20 + 3)), (.int (y7 - 1)), (.ref (20 + 3))])) (h' := (107, I, J, mm_rf rv sp rr w nw)) 5 rfl ?_
            refine mm_T.seg (f' := (137, [some (.ref 20), none, none, none, none, none, none, some (.int y7), some (.int y8), some (.int (mf_pick I (20 + 1) 300 y8))], [(.int (y7 - 1)), (.ref (20 + 3)), (.int (y7 - 1)), (.ref (20 + 3))])) (h' := (107, I, J, mm_rf rv sp rr w nw)) 3 rfl ?_
            refine mm_T.call (t := 204) (as := [(.ref (20 + 3)), (.int (y7 - 1))]) (f' := (140, [some (.ref 20), none, none, none, none, none, none, some (.int y7), some (.int y8), some (.int (mf_pick I (20 + 1) 300 y8))], [(.int (y7 - 1)), (.ref (20 + 3))])) rfl (t_pick _ (20 + 3) 32 (y7 - 1) I J (mm_rf rv sp rr w nw) rfl rfl) (fun v h hq => ?_)
            obtain ⟨rfl, rfl⟩ := hq
            refine mm_T.br (c := (mf_pick I (20 + 3) 32 (y7 - 1)) = 0) (a := ((143, [some (.ref 20), none, none, none, none, none, none, some (.int y7), some (.int y8), some (.int (mf_pick I (20 + 1) 300 y8))], [(.int (y7 - 1)), (.ref (20 + 3))]), (107, I, J, mm_rf rv sp rr w nw))) (b := ((147, [some (.ref 20), none, none, none, none, none, none, some (.int y7), some (.int y8), some (.int (mf_pick I (20 + 1) 300 y8))], [(.int (y7 - 1)), (.ref (20 + 3))]), (107, I, J, mm_rf rv sp rr w nw))) rfl (fun h1300 => ?_) (fun h1300 => ?_)
            · rw [if_pos h1300] at e
              refine mm_T.seg (f' := (148, [some (.ref 20), none, none, none, none, none, none, some (.int y7), some (.int y8), some (.int (mf_pick I (20 + 1) 300 y8))], [(.int 1), (.int (y7 - 1)), (.ref (20 + 3))])) (h' := (107, I, J, mm_rf rv sp rr w nw)) 2 rfl ?_
              refine mm_T.call (t := 205) (as := [(.ref (20 + 3)), (.int (y7 - 1)), (.int 1)]) (f' := (151, [some (.ref 20), none, none, none, none, none, none, some (.int y7), some (.int y8), some (.int (mf_pick I (20 + 1) 300 y8))], [])) rfl (t_put _ (20 + 3) 32 (y7 - 1) 1 I J (mm_rf rv sp rr w nw) rfl rfl) (fun v h hq => ?_)
              obtain ⟨rfl, rfl⟩ := hq
              refine mm_T.seg (f' := (51, [some (.ref 20), none, none, none, none, none, none, some (.int y7), some (.int (y8 + 1)), some (.int (mf_pick I (20 + 1) 300 y8))], [])) (h' := (107, (mf_put I (20 + 3) 32 (y7 - 1) 1), J, mm_rf rv sp rr w nw)) 3 rfl ?_
              refine mm_T.mask [true, false, false, false, false, false, false, true, true, false] ?_
              exact ih y7 (y8 + 1) 20 (mf_put I (20 + 3) 32 (y7 - 1) 1) J rv sp rr w nw (Or.inr rfl) out e k
            · rw [if_neg h1300] at e
              refine mm_T.seg (f' := (148, [some (.ref 20), none, none, none, none, none, none, some (.int y7), some (.int y8), some (.int (mf_pick I (20 + 1) 300 y8))], [(.int 0), (.int (y7 - 1)), (.ref (20 + 3))])) (h' := (107, I, J, mm_rf rv sp rr w nw)) 1 rfl ?_
              refine mm_T.call (t := 205) (as := [(.ref (20 + 3)), (.int (y7 - 1)), (.int 0)]) (f' := (151, [some (.ref 20), none, none, none, none, none, none, some (.int y7), some (.int y8), some (.int (mf_pick I (20 + 1) 300 y8))], [])) rfl (t_put _ (20 + 3) 32 (y7 - 1) 0 I J (mm_rf rv sp rr w nw) rfl rfl) (fun v h hq => ?_)
              obtain ⟨rfl, rfl⟩ := hq
              refine mm_T.seg (f' := (51, [some (.ref 20), none, none, none, none, none, none, some (.int y7), some (.int (y8 + 1)), some (.int (mf_pick I (20 + 1) 300 y8))], [])) (h' := (107, (mf_put I (20 + 3) 32 (y7 - 1) 0), J, mm_rf rv sp rr w nw)) 3 rfl ?_
              refine mm_T.mask [true, false, false, false, false, false, false, true, true, false] ?_
              exact ih y7 (y8 + 1) 20 (mf_put I (20 + 3) 32 (y7 - 1) 0) J rv sp rr w nw (Or.inr rfl) out e k
          · rw [if_neg h1299] at e
            refine mm_T.seg (f' := (161, [some (.ref 20), none, none, none, none, none, none, some (.int (y7 + (-1))), some (.int y8), some (.int (mf_pick I (20 + 1) 300 y8))], [(.ref (20 + 3))])) (h' := (107, I, J, mm_rf rv sp rr w nw)) 3 rfl ?_
            refine mm_T.seg (f' := (171, [some (.ref 20), none, none, none, none, none, none, some (.int (y7 + (-1))), some (.int y8), some (.int (mf_pick I (20 + 1) 300 y8))], [(.ref (20 + 3)), (.int (mf_pick I (20 + 1) 300 y8)), (.int ((y7 + (-1)) - 1)), (.ref (20 + 3))])) (h' := (107, I, J, mm_rf rv sp rr w nw)) 6 rfl ?_
            refine mm_T.seg (f' := (175, [some (.ref 20), none, none, none, none, none, none, some (.int (y7 + (-1))), some (.int y8), some (.int (mf_pick I (20 + 1) 300 y8))], [(.int ((y7 + (-1)) - 1)), (.ref (20 + 3)), (.int (mf_pick I (20 + 1) 300 y8)), (.int ((y7 + (-1)) - 1)), (.ref (20 + 3))])) (h' := (107, I, J, mm_rf rv sp rr w nw)) 3 rfl ?_
            refine mm_T.call (t := 204) (as := [(.ref (20 + 3)), (.int ((y7 + (-1)) - 1))]) (f' := (178, [some (.ref 20), none, none, none, none, none, none, some (.int (y7 + (-1))), some (.int y8), some (.int (mf_pick I (20 + 1) 300 y8))], [(.int (mf_pick I (20 + 1) 300 y8)), (.int ((y7 + (-1)) - 1)), (.ref (20 + 3))])) rfl (t_pick _ (20 + 3) 32 ((y7 + (-1)) - 1) I J (mm_rf rv sp rr w nw) rfl rfl) (fun v h hq => ?_)
            obtain ⟨rfl, rfl⟩ := hq
            refine mm_T.seg (f' := (182, [some (.ref 20), none, none, none, none, none, none, some (.int (y7 + (-1))), some (.int y8), some (.int (mf_pick I (20 + 1) 300 y8))], [(.ref (20 + 3)), (.int (mf_pick I (20 + 3) 32 ((y7 + (-1)) - 1))), (.int (mf_pick I (20 + 1) 300 y8)), (.int ((y7 + (-1)) - 1)), (.ref (20 + 3))])) (h' := (107, I, J, mm_rf rv sp rr w nw)) 2 rfl ?_
            refine mm_T.seg (f' := (184, [some (.ref 20), none, none, none, none, none, none, some (.int (y7 + (-1))), some (.int y8), some (.int (mf_pick I (20 + 1) 300 y8))], [(.int (y7 + (-1))), (.ref (20 + 3)), (.int (mf_pick I (20 + 3) 32 ((y7 + (-1)) - 1))), (.int (mf_pick I (20 + 1) 300 y8)), (.int ((y7 + (-1)) - 1)), (.ref (20 + 3))])) (h' := (107, I, J, mm_rf rv sp rr w nw)) 1 rfl ?_
            refine mm_T.call (t := 204) (as := [(.ref (20 + 3)), (.int (y7 + (-1)))]) (f' := (187, [some (.ref 20), none, none, none, none, none, none, some (.int (y7 + (-1))), some (.int y8), some (.int (mf_pick I (20 + 1) 300 y8))], [(.int (mf_pick I (20 + 3) 32 ((y7 + (-1)) - 1))), (.int (mf_pick I (20 + 1) 300 y8)), (.int ((y7 + (-1)) - 1)), (.ref (20 + 3))])) rfl (t_pick _ (20 + 3) 32 (y7 + (-1)) I J (mm_rf rv sp rr w nw) rfl rfl) (fun v h hq => ?_)
            obtain ⟨rfl, rfl⟩ := hq
            obtain ⟨o1322, eo1322, e⟩ := mm_bind e
            refine mm_T.call (t := 5) (as := [(.int (mf_pick I (20 + 1) 300 y8)), (.int (mf_pick I (20 + 3) 32 ((y7 + (-1)) - 1))), (.int (mf_pick I (20 + 3) 32 (y7 + (-1))))]) (f' := (190, [some (.ref 20), none, none, none, none, none, none, some (.int (y7 + (-1))), some (.int y8), some (.int (mf_pick I (20 + 1) 300 y8))], [(.int ((y7 + (-1)) - 1)), (.ref (20 + 3))])) rfl (tX0_join (d + 0) (mf_pick I (20 + 1) 300 y8) (mf_pick I (20 + 3) 32 ((y7 + (-1)) - 1)) (mf_pick I (20 + 3) 32 (y7 + (-1))) I J rv sp rr w nw o1322 eo1322) (fun v h hq => ?_)
            obtain ⟨rfl, rfl⟩ := hq
            refine mm_T.call (t := 205) (as := [(.ref (20 + 3)), (.int ((y7 + (-1)) - 1)), (.int o1322)]) (f' := (193, [some (.ref 20), none, none, none, none, none, none, some (.int (y7 + (-1))), some (.int y8), some (.int (mf_pick I (20 + 1) 300 y8))], [])) rfl (t_put _ (20 + 3) 32 ((y7 + (-1)) - 1) o1322 I J (mm_rf rv sp rr w nw) rfl rfl) (fun v h hq => ?_)
            obtain ⟨rfl, rfl⟩ := hq
            refine mm_T.seg (f' := (51, [some (.ref 20), none, none, none, none, none, none, some (.int (y7 + (-1))), some (.int (y8 + 1)), some (.int (mf_pick I (20 + 1) 300 y8))], [])) (h' := (107, (mf_put I (20 + 3) 32 ((y7 + (-1)) - 1) o1322), J, mm_rf rv sp rr w nw)) 2 rfl ?_
            refine mm_T.mask [true, false, false, false, false, false, false, true, true, false] ?_
            exact ih (y7 + (-1)) (y8 + 1) 20 (mf_put I (20 + 3) 32 ((y7 + (-1)) - 1) o1322) J rv sp rr w nw (Or.inr rfl) out e k
        · rw [if_neg h1298] at e
          refine mm_T.seg (f' := (82, [some (.ref 20), none, none, none, none, none, none, some (.int y7), some (.int y8), some (.int (mf_pick I (20 + 1) 300 y8))], [(.ref (20 + 3))])) (h' := (107, I, J, mm_rf rv sp rr w nw)) 2 rfl ?_
          refine mm_T.seg (f' := (86, [some (.ref 20), none, none, none, none, none, none, some (.int y7), some (.int y8), some (.int (mf_pick I (20 + 1) 300 y8))], [(.int (mf_pick I (20 + 1) 300 y8)), (.int y7), (.ref (20 + 3))])) (h' := (107, I, J, mm_rf rv sp rr w nw)) 2 rfl ?_
          refine mm_T.br (c := (mf_pick I (20 + 1) 300 y8) < 0) (a := ((94, [some (.ref 20), none, none, none, none, none, none, some (.int y7), some (.int y8), some (.int (mf_pick I (20 + 1) 300 y8))], [(.int y7), (.ref (20 + 3))]), (107, I, J, mm_rf rv sp rr w nw))) (b := ((89, [some (.ref 20), none, none, none, none, none, none, some (.int y7), some (.int y8), some (.int (mf_pick I (20 + 1) 300 y8))], [(.int y7), (.ref (20 + 3))]), (107, I, J, mm_rf rv sp rr w nw))) rfl (fun h1323 => ?_) (fun h1323 => ?_)
          · rw [if_pos h1323] at e
            refine mm_T.seg (f' := (98, [some (.ref 20), none, none, none, none, none, none, some (.int y7), some (.int y8), some (.int (mf_pick I (20 + 1) 300 y8))], [(.ref (20 + 2)), (.int y7), (.ref (20 + 3))])) (h' := (107, I, J, mm_rf rv sp rr w nw)) 2 rfl ?_
            refine mm_T.seg (f' := (102, [some (.ref 20), none, none, none, none, none, none, some (.int y7), some (.int y8), some (.int (mf_pick I (20 + 1) 300 y8))], [(.int ((-1) - (mf_pick I (20 + 1) 300 y8))), (.ref (20 + 2)), (.int y7), (.ref (20 + 3))])) (h' := (107, I, J, mm_rf rv sp rr w nw)) 3 rfl ?_
            refine mm_T.call (t := 204) (as := [(.ref (20 + 2)), (.int ((-1) - (mf_pick I (20 + 1) 300 y8)))]) (f' := (105, [some (.ref 20), none, none, none, none, none, none, some (.int y7), some (.int y8), some (.int (mf_pick I (20 + 1) 300 y8))], [(.int y7), (.ref (20 + 3))])) rfl (t_pick _ (20 + 2) 6 ((-1) - (mf_pick I (20 + 1) 300 y8)) I J (mm_rf rv sp rr w nw) rfl rfl) (fun v h hq => ?_)
            obtain ⟨rfl, rfl⟩ := hq
            refine mm_T.call (t := 205) (as := [(.ref (20 + 3)), (.int y7), (.int (mf_pick I (20 + 2) 6 ((-1) - (mf_pick I (20 + 1) 300 y8))))]) (f' := (108, [some (.ref 20), none, none, none, none, none, none, some (.int y7), some (.int y8), some (.int (mf_pick I (20 + 1) 300 y8))], [])) rfl (t_put _ (20 + 3) 32 y7 (mf_pick I (20 + 2) 6 ((-1) - (mf_pick I (20 + 1) 300 y8))) I J (mm_rf rv sp rr w nw) rfl rfl) (fun v h hq => ?_)
            obtain ⟨rfl, rfl⟩ := hq
            refine mm_T.seg (f' := (51, [some (.ref 20), none, none, none, none, none, none, some (.int (y7 + 1)), some (.int (y8 + 1)), some (.int (mf_pick I (20 + 1) 300 y8))], [])) (h' := (107, (mf_put I (20 + 3) 32 y7 (mf_pick I (20 + 2) 6 ((-1) - (mf_pick I (20 + 1) 300 y8)))), J, mm_rf rv sp rr w nw)) 4 rfl ?_
            refine mm_T.mask [true, false, false, false, false, false, false, true, true, false] ?_
            exact ih (y7 + 1) (y8 + 1) 20 (mf_put I (20 + 3) 32 y7 (mf_pick I (20 + 2) 6 ((-1) - (mf_pick I (20 + 1) 300 y8)))) J rv sp rr w nw (Or.inr rfl) out e k
          · rw [if_neg h1323] at e
            refine mm_T.seg (f' := (105, [some (.ref 20), none, none, none, none, none, none, some (.int y7), some (.int y8), some (.int (mf_pick I (20 + 1) 300 y8))], [(.int (mf_pick I (20 + 1) 300 y8)), (.int y7), (.ref (20 + 3))])) (h' := (107, I, J, mm_rf rv sp rr w nw)) 2 rfl ?_
            refine mm_T.call (t := 205) (as := [(.ref (20 + 3)), (.int y7), (.int (mf_pick I (20 + 1) 300 y8))]) (f' := (108, [some (.ref 20), none, none, none, none, none, none, some (.int y7), some (.int y8), some (.int (mf_pick I (20 + 1) 300 y8))], [])) rfl (t_put _ (20 + 3) 32 y7 (mf_pick I (20 + 1) 300 y8) I J (mm_rf rv sp rr w nw) rfl rfl) (fun v h hq => ?_)
            obtain ⟨rfl, rfl⟩ := hq
            refine mm_T.seg (f' := (51, [some (.ref 20), none, none, none, none, none, none, some (.int (y7 + 1)), some (.int (y8 + 1)), some (.int (mf_pick I (20 + 1) 300 y8))], [])) (h' := (107, (mf_put I (20 + 3) 32 y7 (mf_pick I (20 + 1) 300 y8)), J, mm_rf rv sp rr w nw)) 4 rfl ?_
            refine mm_T.mask [true, false, false, false, false, false, false, true, true, false] ?_
            exact ih (y7 + 1) (y8 + 1) 20 (mf_put I (20 + 3) 32 y7 (mf_pick I (20 + 1) 300 y8)) J rv sp rr w nw (Or.inr rfl) out e k
      · rw [if_neg h1297] at e
        cases e
        refine mm_T.mask [true, false, false, false, false, false, false, false, false, false] ?_
        exact k
set_option maxRecDepth 100000 in
set_option maxHeartbeats 4000000 in
theorem tX0_value (d n : Nat) (x1 : Int32) (x2 : Int32) (x3 : Int32) (x4 : Int32) (x5 : Int32) (x6 : Int32) (fo : Nat) (I : Nat → Nat → Int32) (J : Nat → Nat → Int64) (rv sp rr w nw : Nat) (hfo : fo = 4 ∨ fo = 20) (out : Int32 × (Nat → Nat → Int32)) (e : fX0_value n x1 x2 x3 x4 x5 x6 fo I = some out) : mm_T none (d + 1) 4 (mm_ent 4 [(.ref fo), (.int x1), (.int x2), (.int x3), (.int x4), (.int x5), (.int x6)]) (107, I, J, mm_rf rv sp rr w nw) (fun v h => v = some (.int out.1) ∧ h = (107, out.2, J, mm_rf rv sp rr w nw)) := by
  rcases hfo with rfl | rfl
  · unfold fX0_value at e
    refine mm_T.seg (f' := (4, [some (.ref 4), some (.int x1), some (.int x2), some (.int x3), some (.int x4), some (.int x5), some (.int x6), none, none, none], [(.ref (4 + 2))])) (h' := (107, I, J, mm_rf rv sp rr w nw)) 2 rfl ?_
    refine mm_T.seg (f' := (11, [some (.ref 4), some (.int x1), some (.int x2), some (.int x3), some (.int x4), some (.int x5), some (.int x6), none, none, none], [(.ref (4 + 2))])) (h' := (107, (mm_up I (4 + 2) 0 x1), J, mm_rf rv sp rr w nw)) 5 rfl ?_
    refine mm_T.seg (f' := (18, [some (.ref 4), some (.int x1), some (.int x2), some (.int x3), some (.int x4), some (.int x5), some (.int x6), none, none, none], [(.ref (4 + 2))])) (h' := (107, (mm_up (mm_up I (4 + 2) 0 x1) (4 + 2) 1 x2), J, mm_rf rv sp rr w nw)) 5 rfl ?_
    refine mm_T.seg (f' := (25, [some (.ref 4), some (.int x1), some (.int x2), some (.int x3), some (.int x4), some (.int x5), some (.int x6), none, none, none], [(.ref (4 + 2))])) (h' := (107, (mm_up (mm_up (mm_up I (4 + 2) 0 x1) (4 + 2) 1 x2) (4 + 2) 2 x3), J, mm_rf rv sp rr w nw)) 5 rfl ?_
    refine mm_T.seg (f' := (33, [some (.ref 4), some (.int x1), some (.int x2), some (.int x3), some (.int x4), some (.int x5), some (.int x6), none, none, none], [(.ref (4 + 2))])) (h' := (107, (mm_up (mm_up (mm_up (mm_up I (4 + 2) 0 x1) (4 + 2) 1 x2) (4 + 2) 2 x3) (4 + 2) 3 x4), J, mm_rf rv sp rr w nw)) 5 rfl ?_
    refine mm_T.seg (f' := (41, [some (.ref 4), some (.int x1), some (.int x2), some (.int x3), some (.int x4), some (.int x5), some (.int x6), none, none, none], [(.ref (4 + 2))])) (h' := (107, (mm_up (mm_up (mm_up (mm_up (mm_up I (4 + 2) 0 x1) (4 + 2) 1 x2) (4 + 2) 2 x3) (4 + 2) 3 x4) (4 + 2) 4 x5), J, mm_rf rv sp rr w nw)) 5 rfl ?_
    refine mm_T.seg (f' := (51, [some (.ref 4), some (.int x1), some (.int x2), some (.int x3), some (.int x4), some (.int x5), some (.int x6), some (.int 0), some (.int 0), none], [])) (h' := (107, (mm_up (mm_up (mm_up (mm_up (mm_up (mm_up I (4 + 2) 0 x1) (4 + 2) 1 x2) (4 + 2) 2 x3) (4 + 2) 3 x4) (4 + 2) 4 x5) (4 + 2) 5 x6), J, mm_rf rv sp rr w nw)) 7 rfl ?_
    refine mm_T.mask [true, false, false, false, false, false, false, true, true, false] ?_
    obtain ⟨o1324, eo1324, e⟩ := mm_bind e
    refine tlX0_value_L51 d _ n 0 0 4 (mm_up (mm_up (mm_up (mm_up (mm_up (mm_up I (4 + 2) 0 x1) (4 + 2) 1 x2) (4 + 2) 2 x3) (4 + 2) 3 x4) (4 + 2) 4 x5) (4 + 2) 5 x6) J rv sp rr w nw (Or.inl rfl) o1324 eo1324 ?_
    refine mm_T.seg (f' := (203, [some (.ref 4), none, none, none, none, none, none, none, none, none], [(.ref (4 + 3))])) (h' := (107, o1324, J, mm_rf rv sp rr w nw)) 2 rfl ?_
    refine mm_T.seg (f' := (204, [some (.ref 4), none, none, none, none, none, none, none, none, none], [(.int 0), (.ref (4 + 3))])) (h' := (107, o1324, J, mm_rf rv sp rr w nw)) 1 rfl ?_
    refine mm_T.call (t := 204) (as := [(.ref (4 + 3)), (.int 0)]) (f' := (207, [some (.ref 4), none, none, none, none, none, none, none, none, none], [])) rfl (t_pick _ (4 + 3) 32 0 o1324 J (mm_rf rv sp rr w nw) rfl rfl) (fun v h hq => ?_)
    obtain ⟨rfl, rfl⟩ := hq
    cases e
    exact mm_T.ret rfl ⟨rfl, rfl⟩
  · unfold fX0_value at e
    refine mm_T.seg (f' := (4, [some (.ref 20), some (.int x1), some (.int x2), some (.int x3), some (.int x4), some (.int x5), some (.int x6), none, none, none], [(.ref (20 + 2))])) (h' := (107, I, J, mm_rf rv sp rr w nw)) 2 rfl ?_
    refine mm_T.seg (f' := (11, [some (.ref 20), some (.int x1), some (.int x2), some (.int x3), some (.int x4), some (.int x5), some (.int x6), none, none, none], [(.ref (20 + 2))])) (h' := (107, (mm_up I (20 + 2) 0 x1), J, mm_rf rv sp rr w nw)) 5 rfl ?_
    refine mm_T.seg (f' := (18, [some (.ref 20), some (.int x1), some (.int x2), some (.int x3), some (.int x4), some (.int x5), some (.int x6), none, none, none], [(.ref (20 + 2))])) (h' := (107, (mm_up (mm_up I (20 + 2) 0 x1) (20 + 2) 1 x2), J, mm_rf rv sp rr w nw)) 5 rfl ?_
    refine mm_T.seg (f' := (25, [some (.ref 20), some (.int x1), some (.int x2), some (.int x3), some (.int x4), some (.int x5), some (.int x6), none, none, none], [(.ref (20 + 2))])) (h' := (107, (mm_up (mm_up (mm_up I (20 + 2) 0 x1) (20 + 2) 1 x2) (20 + 2) 2 x3), J, mm_rf rv sp rr w nw)) 5 rfl ?_
    refine mm_T.seg (f' := (33, [some (.ref 20), some (.int x1), some (.int x2), some (.int x3), some (.int x4), some (.int x5), some (.int x6), none, none, none], [(.ref (20 + 2))])) (h' := (107, (mm_up (mm_up (mm_up (mm_up I (20 + 2) 0 x1) (20 + 2) 1 x2) (20 + 2) 2 x3) (20 + 2) 3 x4), J, mm_rf rv sp rr w nw)) 5 rfl ?_
    refine mm_T.seg (f' := (41, [some (.ref 20), some (.int x1), some (.int x2), some (.int x3), some (.int x4), some (.int x5), some (.int x6), none, none, none], [(.ref (20 + 2))])) (h' := (107, (mm_up (mm_up (mm_up (mm_up (mm_up I (20 + 2) 0 x1) (20 + 2) 1 x2) (20 + 2) 2 x3) (20 + 2) 3 x4) (20 + 2) 4 x5), J, mm_rf rv sp rr w nw)) 5 rfl ?_
    refine mm_T.seg (f' := (51, [some (.ref 20), some (.int x1), some (.int x2), some (.int x3), some (.int x4), some (.int x5), some (.int x6), some (.int 0), some (.int 0), none], [])) (h' := (107, (mm_up (mm_up (mm_up (mm_up (mm_up (mm_up I (20 + 2) 0 x1) (20 + 2) 1 x2) (20 + 2) 2 x3) (20 + 2) 3 x4) (20 + 2) 4 x5) (20 + 2) 5 x6), J, mm_rf rv sp rr w nw)) 7 rfl ?_
    refine mm_T.mask [true, false, false, false, false, false, false, true, true, false] ?_
    obtain ⟨o1324, eo1324, e⟩ := mm_bind e
    refine tlX0_value_L51 d _ n 0 0 20 (mm_up (mm_up (mm_up (mm_up (mm_up (mm_up I (20 + 2) 0 x1) (20 + 2) 1 x2) (20 + 2) 2 x3) (20 + 2) 3 x4) (20 + 2) 4 x5) (20 + 2) 5 x6) J rv sp rr w nw (Or.inr rfl) o1324 eo1324 ?_
    refine mm_T.seg (f' := (203, [some (.ref 20), none, none, none, none, none, none, none, none, none], [(.ref (20 + 3))])) (h' := (107, o1324, J, mm_rf rv sp rr w nw)) 2 rfl ?_
    refine mm_T.seg (f' := (204, [some (.ref 20), none, none, none, none, none, none, none, none, none], [(.int 0), (.ref (20 + 3))])) (h' := (107, o1324, J, mm_rf rv sp rr w nw)) 1 rfl ?_
    refine mm_T.call (t := 204) (as := [(.ref (20 + 3)), (.int 0)]) (f' := (207, [some (.ref 20), none, none, none, none, none, none, none, none, none], [])) rfl (t_pick _ (20 + 3) 32 0 o1324 J (mm_rf rv sp rr w nw) rfl rfl) (fun v h hq => ?_)
    obtain ⟨rfl, rfl⟩ := hq
    cases e
    exact mm_T.ret rfl ⟨rfl, rfl⟩
set_option maxRecDepth 100000 in
set_option maxHeartbeats 4000000 in
theorem tX7_get (d : Nat) (x1 : Int32) (x2 : Int32) (I : Nat → Nat → Int32) (J : Nat → Nat → Int64) (rv sp rr w nw : Nat) (out : Int32) (e : fX7_get x1 x2 I = out) : mm_T none (d + 1) 103 (mm_ent 103 [(.ref 18), (.int x1), (.int x2)]) (107, I, J, mm_rf rv sp rr w nw) (fun v h => v = some (.int out) ∧ h = (107, I, J, mm_rf rv sp rr w nw)) := by
  unfold fX7_get at e
  refine mm_T.seg (f' := (4, [some (.ref 18), some (.int x1), some (.int x2)], [(.ref 32)])) (h' := (107, I, J, mm_rf rv sp rr w nw)) 2 rfl ?_
  refine mm_T.seg (f' := (9, [some (.ref 18), some (.int x1), some (.int x2)], [(.int ((x1 * 5) + x2)), (.ref 32)])) (h' := (107, I, J, mm_rf rv sp rr w nw)) 5 rfl ?_
  refine mm_T.call (t := 204) (as := [(.ref 32), (.int ((x1 * 5) + x2))]) (f' := (12, [some (.ref 18), some (.int x1), some (.int x2)], [])) rfl (t_pick _ 32 28 ((x1 * 5) + x2) I J (mm_rf rv sp rr w nw) rfl rfl) (fun v h hq => ?_)
  obtain ⟨rfl, rfl⟩ := hq
  cases e
  exact mm_T.ret rfl ⟨rfl, rfl⟩
set_option maxRecDepth 100000 in
set_option maxHeartbeats 4000000 in
theorem tX7_rowOf (d : Nat) (x1 : Int32) (I : Nat → Nat → Int32) (J : Nat → Nat → Int64) (rv sp rr w nw : Nat) (out : Int32) (e : fX7_rowOf x1 I = out) : mm_T none (d + 2) 106 (mm_ent 106 [(.ref 18), (.int x1)]) (107, I, J, mm_rf rv sp rr w nw) (fun v h => v = some (.int out) ∧ h = (107, I, J, mm_rf rv sp rr w nw)) := by
  unfold fX7_rowOf at e
  refine mm_T.seg (f' := (3, [some (.ref 18), some (.int x1)], [(.int 1), (.int x1), (.ref 18)])) (h' := (107, I, J, mm_rf rv sp rr w nw)) 3 rfl ?_
  obtain ⟨g175, hg175⟩ : ∃ z, fX7_get x1 1 I = z := ⟨_, rfl⟩
  try rw [hg175] at e
  refine mm_T.call (t := 103) (as := [(.ref 18), (.int x1), (.int 1)]) (f' := (6, [some (.ref 18), some (.int x1)], [])) rfl (tX7_get (d + 0) x1 1 I J rv sp rr w nw g175 hg175) (fun v h hq => ?_)
  obtain ⟨rfl, rfl⟩ := hq
  cases e
  exact mm_T.ret rfl ⟨rfl, rfl⟩
set_option maxRecDepth 100000 in
set_option maxHeartbeats 4000000 in
theorem tX7_columnOf (d : Nat) (x1 : Int32) (I : Nat → Nat → Int32) (J : Nat → Nat → Int64) (rv sp rr w nw : Nat) (out : Int32) (e : fX7_columnOf x1 I = out) : mm_T none (d + 2) 105 (mm_ent 105 [(.ref 18), (.int x1)]) (107, I, J, mm_rf rv sp rr w nw) (fun v h => v = some (.int out) ∧ h = (107, I, J, mm_rf rv sp rr w nw)) := by
  unfold fX7_columnOf at e
  refine mm_T.seg (f' := (3, [some (.ref 18), some (.int x1)], [(.int 0), (.int x1), (.ref 18)])) (h' := (107, I, J, mm_rf rv sp rr w nw)) 3 rfl ?_
  obtain ⟨g177, hg177⟩ : ∃ z, fX7_get x1 0 I = z := ⟨_, rfl⟩
  try rw [hg177] at e
  refine mm_T.call (t := 103) (as := [(.ref 18), (.int x1), (.int 0)]) (f' := (6, [some (.ref 18), some (.int x1)], [])) rfl (tX7_get (d + 0) x1 0 I J rv sp rr w nw g177 hg177) (fun v h hq => ?_)
  obtain ⟨rfl, rfl⟩ := hq
  cases e
  exact mm_T.ret rfl ⟨rfl, rfl⟩
set_option maxRecDepth 100000 in
set_option maxHeartbeats 4000000 in
theorem tX5_isCell (d : Nat) (x1 : Int32) (x2 : Int32) (r : Nat) (I : Nat → Nat → Int32) (J : Nat → Nat → Int64) (rv sp rr w nw : Nat) (hr : r = 3 ∨ r = 19) (out : Int32) (e : fX5_isCell x1 x2 r I = out) : mm_T none (d + 0) 66 (mm_ent 66 [(.ref r), (.int x1), (.int x2)]) (107, I, J, mm_rf rv sp rr w nw) (fun v h => v = some (.int out) ∧ h = (107, I, J, mm_rf rv sp rr w nw)) := by
  rcases hr with rfl | rfl
  · unfold fX5_isCell at e
    refine mm_T.seg (f' := (1, [some (.ref 3), some (.int x1), some (.int x2)], [(.int x1)])) (h' := (107, I, J, mm_rf rv sp rr w nw)) 1 rfl ?_
    refine mm_T.br (c := x1 < 0) (a := ((28, [some (.ref 3), some (.int x1), some (.int x2)], []), (107, I, J, mm_rf rv sp rr w nw))) (b := ((4, [some (.ref 3), some (.int x1), some (.int x2)], []), (107, I, J, mm_rf rv sp rr w nw))) rfl (fun h1331 => ?_) (fun h1331 => ?_)
    · rw [if_pos h1331] at e
      refine mm_T.seg (f' := (29, [some (.ref 3), some (.int x1), some (.int x2)], [(.int 0)])) (h' := (107, I, J, mm_rf rv sp rr w nw)) 1 rfl ?_
      cases e
      exact mm_T.ret rfl ⟨rfl, rfl⟩
    · rw [if_neg h1331] at e
      refine mm_T.seg (f' := (9, [some (.ref 3), some (.int x1), some (.int x2)], [(.int (I 3 0)), (.int x1)])) (h' := (107, I, J, mm_rf rv sp rr w nw)) 3 rfl ?_
      refine mm_T.br (c := x1 < (I 3 0)) (a := ((12, [some (.ref 3), some (.int x1), some (.int x2)], []), (107, I, J, mm_rf rv sp rr w nw))) (b := ((28, [some (.ref 3), some (.int x1), some (.int x2)], []), (107, I, J, mm_rf rv sp rr w nw))) rfl (fun h1332 => ?_) (fun h1332 => ?_)
      · rw [if_pos h1332] at e
        refine mm_T.seg (f' := (13, [some (.ref 3), some (.int x1), some (.int x2)], [(.int x2)])) (h' := (107, I, J, mm_rf rv sp rr w nw)) 1 rfl ?_
        refine mm_T.br (c := x2 < 0) (a := ((28, [some (.ref 3), some (.int x1), some (.int x2)], []), (107, I, J, mm_rf rv sp rr w nw))) (b := ((16, [some (.ref 3), some (.int x1), some (.int x2)], []), (107, I, J, mm_rf rv sp rr w nw))) rfl (fun h1333 => ?_) (fun h1333 => ?_)
        · rw [if_pos h1333] at e
          refine mm_T.seg (f' := (29, [some (.ref 3), some (.int x1), some (.int x2)], [(.int 0)])) (h' := (107, I, J, mm_rf rv sp rr w nw)) 1 rfl ?_
          cases e
          exact mm_T.ret rfl ⟨rfl, rfl⟩
        · rw [if_neg h1333] at e
          refine mm_T.seg (f' := (21, [some (.ref 3), some (.int x1), some (.int x2)], [(.int (I 3 1)), (.int x2)])) (h' := (107, I, J, mm_rf rv sp rr w nw)) 3 rfl ?_
          refine mm_T.br (c := (I 3 1) < x2) (a := ((28, [some (.ref 3), some (.int x1), some (.int x2)], []), (107, I, J, mm_rf rv sp rr w nw))) (b := ((24, [some (.ref 3), some (.int x1), some (.int x2)], []), (107, I, J, mm_rf rv sp rr w nw))) rfl (fun h1334 => ?_) (fun h1334 => ?_)
          · rw [if_pos h1334] at e
            refine mm_T.seg (f' := (29, [some (.ref 3), some (.int x1), some (.int x2)], [(.int 0)])) (h' := (107, I, J, mm_rf rv sp rr w nw)) 1 rfl ?_
            cases e
            exact mm_T.ret rfl ⟨rfl, rfl⟩
          · rw [if_neg h1334] at e
            refine mm_T.seg (f' := (29, [some (.ref 3), some (.int x1), some (.int x2)], [(.int 1)])) (h' := (107, I, J, mm_rf rv sp rr w nw)) 2 rfl ?_
            cases e
            exact mm_T.ret rfl ⟨rfl, rfl⟩
      · rw [if_neg h1332] at e
        refine mm_T.seg (f' := (29, [some (.ref 3), some (.int x1), some (.int x2)], [(.int 0)])) (h' := (107, I, J, mm_rf rv sp rr w nw)) 1 rfl ?_
        cases e
        exact mm_T.ret rfl ⟨rfl, rfl⟩
  · unfold fX5_isCell at e
    refine mm_T.seg (f' := (1, [some (.ref 19), some (.int x1), some (.int x2)], [(.int x1)])) (h' := (107, I, J, mm_rf rv sp rr w nw)) 1 rfl ?_
    refine mm_T.br (c := x1 < 0) (a := ((28, [some (.ref 19), some (.int x1), some (.int x2)], []), (107, I, J, mm_rf rv sp rr w nw))) (b := ((4, [some (.ref 19), some (.int x1), some (.int x2)], []), (107, I, J, mm_rf rv sp rr w nw))) rfl (fun h1331 => ?_) (fun h1331 => ?_)
    · rw [if_pos h1331] at e
      refine mm_T.seg (f' := (29, [some (.ref 19), some (.int x1), some (.int x2)], [(.int 0)])) (h' := (107, I, J, mm_rf rv sp rr w nw)) 1 rfl ?_
      cases e
      exact mm_T.ret rfl ⟨rfl, rfl⟩
    · rw [if_neg h1331] at e
      refine mm_T.seg (f' := (9, [some (.ref 19), some (.int x1), some (.int x2)], [(.int (I 19 0)), (.int x1)])) (h' := (107, I, J, mm_rf rv sp rr w nw)) 3 rfl ?_
      refine mm_T.br (c := x1 < (I 19 0)) (a := ((12, [some (.ref 19), some (.int x1), some (.int x2)], []), (107, I, J, mm_rf rv sp rr w nw))) (b := ((28, [some (.ref 19), some (.int x1), some (.int x2)], []), (107, I, J, mm_rf rv sp rr w nw))) rfl (fun h1332 => ?_) (fun h1332 => ?_)
      · rw [if_pos h1332] at e
        refine mm_T.seg (f' := (13, [some (.ref 19), some (.int x1), some (.int x2)], [(.int x2)])) (h' := (107, I, J, mm_rf rv sp rr w nw)) 1 rfl ?_
        refine mm_T.br (c := x2 < 0) (a := ((28, [some (.ref 19), some (.int x1), some (.int x2)], []), (107, I, J, mm_rf rv sp rr w nw))) (b := ((16, [some (.ref 19), some (.int x1), some (.int x2)], []), (107, I, J, mm_rf rv sp rr w nw))) rfl (fun h1333 => ?_) (fun h1333 => ?_)
        · rw [if_pos h1333] at e
          refine mm_T.seg (f' := (29, [some (.ref 19), some (.int x1), some (.int x2)], [(.int 0)])) (h' := (107, I, J, mm_rf rv sp rr w nw)) 1 rfl ?_
          cases e
          exact mm_T.ret rfl ⟨rfl, rfl⟩
        · rw [if_neg h1333] at e
          refine mm_T.seg (f' := (21, [some (.ref 19), some (.int x1), some (.int x2)], [(.int (I 19 1)), (.int x2)])) (h' := (107, I, J, mm_rf rv sp rr w nw)) 3 rfl ?_
          refine mm_T.br (c := (I 19 1) < x2) (a := ((28, [some (.ref 19), some (.int x1), some (.int x2)], []), (107, I, J, mm_rf rv sp rr w nw))) (b := ((24, [some (.ref 19), some (.int x1), some (.int x2)], []), (107, I, J, mm_rf rv sp rr w nw))) rfl (fun h1334 => ?_) (fun h1334 => ?_)
          · rw [if_pos h1334] at e
            refine mm_T.seg (f' := (29, [some (.ref 19), some (.int x1), some (.int x2)], [(.int 0)])) (h' := (107, I, J, mm_rf rv sp rr w nw)) 1 rfl ?_
            cases e
            exact mm_T.ret rfl ⟨rfl, rfl⟩
          · rw [if_neg h1334] at e
            refine mm_T.seg (f' := (29, [some (.ref 19), some (.int x1), some (.int x2)], [(.int 1)])) (h' := (107, I, J, mm_rf rv sp rr w nw)) 2 rfl ?_
            cases e
            exact mm_T.ret rfl ⟨rfl, rfl⟩
      · rw [if_neg h1332] at e
        refine mm_T.seg (f' := (29, [some (.ref 19), some (.int x1), some (.int x2)], [(.int 0)])) (h' := (107, I, J, mm_rf rv sp rr w nw)) 1 rfl ?_
        cases e
        exact mm_T.ret rfl ⟨rfl, rfl⟩
set_option maxRecDepth 100000 in
set_option maxHeartbeats 4000000 in
theorem tJ9_min (d : Nat) (x0 : Int32) (x1 : Int32) (I : Nat → Nat → Int32) (J : Nat → Nat → Int64) (rv sp rr w nw : Nat) (out : Int32) (e : fJ9_min x0 x1 = out) : mm_T none (d + 0) 348 (mm_ent 348 [(.int x0), (.int x1)]) (107, I, J, mm_rf rv sp rr w nw) (fun v h => v = some (.int out) ∧ h = (107, I, J, mm_rf rv sp rr w nw)) := by
  unfold fJ9_min at e
  refine mm_T.seg (f' := (2, [some (.int x0), some (.int x1)], [(.int x1), (.int x0)])) (h' := (107, I, J, mm_rf rv sp rr w nw)) 2 rfl ?_
  refine mm_T.br (c := x1 < x0) (a := ((9, [some (.int x0), some (.int x1)], []), (107, I, J, mm_rf rv sp rr w nw))) (b := ((5, [some (.int x0), some (.int x1)], []), (107, I, J, mm_rf rv sp rr w nw))) rfl (fun h1336 => ?_) (fun h1336 => ?_)
  · rw [if_pos h1336] at e
    refine mm_T.seg (f' := (10, [some (.int x0), some (.int x1)], [(.int x1)])) (h' := (107, I, J, mm_rf rv sp rr w nw)) 1 rfl ?_
    cases e
    exact mm_T.ret rfl ⟨rfl, rfl⟩
  · rw [if_neg h1336] at e
    refine mm_T.seg (f' := (10, [some (.int x0), some (.int x1)], [(.int x0)])) (h' := (107, I, J, mm_rf rv sp rr w nw)) 2 rfl ?_
    cases e
    exact mm_T.ret rfl ⟨rfl, rfl⟩
set_option maxRecDepth 100000 in
set_option maxHeartbeats 4000000 in
theorem tJ9_max (d : Nat) (x0 : Int32) (x1 : Int32) (I : Nat → Nat → Int32) (J : Nat → Nat → Int64) (rv sp rr w nw : Nat) (out : Int32) (e : fJ9_max x0 x1 = out) : mm_T none (d + 0) 347 (mm_ent 347 [(.int x0), (.int x1)]) (107, I, J, mm_rf rv sp rr w nw) (fun v h => v = some (.int out) ∧ h = (107, I, J, mm_rf rv sp rr w nw)) := by
  unfold fJ9_max at e
  refine mm_T.seg (f' := (2, [some (.int x0), some (.int x1)], [(.int x1), (.int x0)])) (h' := (107, I, J, mm_rf rv sp rr w nw)) 2 rfl ?_
  refine mm_T.br (c := x0 < x1) (a := ((9, [some (.int x0), some (.int x1)], []), (107, I, J, mm_rf rv sp rr w nw))) (b := ((5, [some (.int x0), some (.int x1)], []), (107, I, J, mm_rf rv sp rr w nw))) rfl (fun h1337 => ?_) (fun h1337 => ?_)
  · rw [if_pos h1337] at e
    refine mm_T.seg (f' := (10, [some (.int x0), some (.int x1)], [(.int x1)])) (h' := (107, I, J, mm_rf rv sp rr w nw)) 1 rfl ?_
    cases e
    exact mm_T.ret rfl ⟨rfl, rfl⟩
  · rw [if_neg h1337] at e
    refine mm_T.seg (f' := (10, [some (.int x0), some (.int x1)], [(.int x0)])) (h' := (107, I, J, mm_rf rv sp rr w nw)) 2 rfl ?_
    cases e
    exact mm_T.ret rfl ⟨rfl, rfl⟩
set_option maxRecDepth 100000 in
set_option maxHeartbeats 4000000 in
theorem tX5_cell (d : Nat) (x0 : Int32) (x1 : Int32) (I : Nat → Nat → Int32) (J : Nat → Nat → Int64) (rv sp rr w nw : Nat) (out : Int32) (e : fX5_cell x0 x1 = out) : mm_T none (d + 0) 65 (mm_ent 65 [(.int x0), (.int x1)]) (107, I, J, mm_rf rv sp rr w nw) (fun v h => v = some (.int out) ∧ h = (107, I, J, mm_rf rv sp rr w nw)) := by
  unfold fX5_cell at e
  refine mm_T.seg (f' := (6, [some (.int x0), some (.int x1)], [(.int ((x1 * 8) + x0))])) (h' := (107, I, J, mm_rf rv sp rr w nw)) 5 rfl ?_
  cases e
  exact mm_T.ret rfl ⟨rfl, rfl⟩
set_option maxRecDepth 100000 in
set_option maxHeartbeats 4000000 in
theorem tX5_leadsTo (d : Nat) (x1 : Int32) (x2 : Int32) (x3 : Int32) (x4 : Int32) (r : Nat) (I : Nat → Nat → Int32) (J : Nat → Nat → Int64) (rv sp rr w nw : Nat) (hr : r = 3 ∨ r = 19) (out : Int32) (e : fX5_leadsTo x1 x2 x3 x4 r I = out) : mm_T none (d + 1) 81 (mm_ent 81 [(.ref r), (.int x1), (.int x2), (.int x3), (.int x4)]) (107, I, J, mm_rf rv sp rr w nw) (fun v h => v = some (.int out) ∧ h = (107, I, J, mm_rf rv sp rr w nw)) := by
  rcases hr with rfl | rfl
  · unfold fX5_leadsTo at e
    refine mm_T.seg (f' := (3, [some (.ref 3), some (.int x1), some (.int x2), some (.int x3), some (.int x4), none], [(.int x2), (.int x1), (.ref 3)])) (h' := (107, I, J, mm_rf rv sp rr w nw)) 3 rfl ?_
    obtain ⟨g180, hg180⟩ : ∃ z, fX5_isCell x1 x2 3 I = z := ⟨_, rfl⟩
    try rw [hg180] at e
    refine mm_T.call (t := 66) (as := [(.ref 3), (.int x1), (.int x2)]) (f' := (6, [some (.ref 3), some (.int x1), some (.int x2), some (.int x3), some (.int x4), none], [])) rfl (tX5_isCell (d + 0) x1 x2 3 I J rv sp rr w nw (Or.inl rfl) g180 hg180) (fun v h hq => ?_)
    obtain ⟨rfl, rfl⟩ := hq
    refine mm_T.br (c := g180 = 0) (a := ((28, [some (.ref 3), some (.int x1), some (.int x2), some (.int x3), some (.int x4), none], []), (107, I, J, mm_rf rv sp rr w nw))) (b := ((9, [some (.ref 3), some (.int x1), some (.int x2), some (.int x3), some (.int x4), none], []), (107, I, J, mm_rf rv sp rr w nw))) rfl (fun h1335 => ?_) (fun h1335 => ?_)
    · rw [if_pos h1335] at e
      refine mm_T.seg (f' := (47, [some (.ref 3), some (.int x1), some (.int x2), some (.int x3), some (.int x4), some (.int 0)], [(.int ((x1 + x3) + (x4 * 0))), (.int ((I 3 0) - 1)), (.int 0)])) (h' := (107, I, J, mm_rf rv sp rr w nw)) 14 rfl ?_
      obtain ⟨g181, hg181⟩ : ∃ z, fJ9_min ((I 3 0) - 1) ((x1 + x3) + (x4 * 0)) = z := ⟨_, rfl⟩
      try rw [hg181] at e
      refine mm_T.call (t := 348) (as := [(.int ((I 3 0) - 1)), (.int ((x1 + x3) + (x4 * 0)))]) (f' := (50, [some (.ref 3), some (.int x1), some (.int x2), some (.int x3), some (.int x4), some (.int 0)], [(.int 0)])) rfl (tJ9_min (d + 0) ((I 3 0) - 1) ((x1 + x3) + (x4 * 0)) I J rv sp rr w nw g181 hg181) (fun v h hq => ?_)
      obtain ⟨rfl, rfl⟩ := hq
      obtain ⟨g182, hg182⟩ : ∃ z, fJ9_max 0 g181 = z := ⟨_, rfl⟩
      try rw [hg182] at e
      refine mm_T.call (t := 347) (as := [(.int 0), (.int g181)]) (f' := (53, [some (.ref 3), some (.int x1), some (.int x2), some (.int x3), some (.int x4), some (.int 0)], [])) rfl (tJ9_max (d + 0) 0 g181 I J rv sp rr w nw g182 hg182) (fun v h hq => ?_)
      obtain ⟨rfl, rfl⟩ := hq
      cases e
      exact mm_T.ret rfl ⟨rfl, rfl⟩
    · rw [if_neg h1335] at e
      refine mm_T.seg (f' := (14, [some (.ref 3), some (.int x1), some (.int x2), some (.int x3), some (.int x4), none], [(.ref (3 + 5)), (.int 0)])) (h' := (107, I, J, mm_rf rv sp rr w nw)) 3 rfl ?_
      refine mm_T.seg (f' := (16, [some (.ref 3), some (.int x1), some (.int x2), some (.int x3), some (.int x4), none], [(.int x2), (.int x1), (.ref (3 + 5)), (.int 0)])) (h' := (107, I, J, mm_rf rv sp rr w nw)) 2 rfl ?_
      obtain ⟨g183, hg183⟩ : ∃ z, fX5_cell x1 x2 = z := ⟨_, rfl⟩
      try rw [hg183] at e
      refine mm_T.call (t := 65) (as := [(.int x1), (.int x2)]) (f' := (19, [some (.ref 3), some (.int x1), some (.int x2), some (.int x3), some (.int x4), none], [(.ref (3 + 5)), (.int 0)])) rfl (tX5_cell (d + 0) x1 x2 I J rv sp rr w nw g183 hg183) (fun v h hq => ?_)
      obtain ⟨rfl, rfl⟩ := hq
      refine mm_T.call (t := 204) (as := [(.ref (3 + 5)), (.int g183)]) (f' := (22, [some (.ref 3), some (.int x1), some (.int x2), some (.int x3), some (.int x4), none], [(.int 0)])) rfl (t_pick _ (3 + 5) 56 g183 I J (mm_rf rv sp rr w nw) rfl rfl) (fun v h hq => ?_)
      obtain ⟨rfl, rfl⟩ := hq
      obtain ⟨g184, hg184⟩ : ∃ z, fJ9_max 0 (mf_pick I (3 + 5) 56 g183) = z := ⟨_, rfl⟩
      try rw [hg184] at e
      refine mm_T.call (t := 347) (as := [(.int 0), (.int (mf_pick I (3 + 5) 56 g183))]) (f' := (25, [some (.ref 3), some (.int x1), some (.int x2), some (.int x3), some (.int x4), none], [])) rfl (tJ9_max (d + 0) 0 (mf_pick I (3 + 5) 56 g183) I J rv sp rr w nw g184 hg184) (fun v h hq => ?_)
      obtain ⟨rfl, rfl⟩ := hq
      refine mm_T.seg (f' := (47, [some (.ref 3), some (.int x1), some (.int x2), some (.int x3), some (.int x4), some (.int g184)], [(.int ((x1 + x3) + (x4 * g184))), (.int ((I 3 0) - 1)), (.int 0)])) (h' := (107, I, J, mm_rf rv sp rr w nw)) 14 rfl ?_
      obtain ⟨g185, hg185⟩ : ∃ z, fJ9_min ((I 3 0) - 1) ((x1 + x3) + (x4 * g184)) = z := ⟨_, rfl⟩
      try rw [hg185] at e
      refine mm_T.call (t := 348) (as := [(.int ((I 3 0) - 1)), (.int ((x1 + x3) + (x4 * g184)))]) (f' := (50, [some (.ref 3), some (.int x1), some (.int x2), some (.int x3), some (.int x4), some (.int g184)], [(.int 0)])) rfl (tJ9_min (d + 0) ((I 3 0) - 1) ((x1 + x3) + (x4 * g184)) I J rv sp rr w nw g185 hg185) (fun v h hq => ?_)
      obtain ⟨rfl, rfl⟩ := hq
      obtain ⟨g186, hg186⟩ : ∃ z, fJ9_max 0 g185 = z := ⟨_, rfl⟩
      try rw [hg186] at e
      refine mm_T.call (t := 347) (as := [(.int 0), (.int g185)]) (f' := (53, [some (.ref 3), some (.int x1), some (.int x2), some (.int x3), some (.int x4), some (.int g184)], [])) rfl (tJ9_max (d + 0) 0 g185 I J rv sp rr w nw g186 hg186) (fun v h hq => ?_)
      obtain ⟨rfl, rfl⟩ := hq
      cases e
      exact mm_T.ret rfl ⟨rfl, rfl⟩
  · unfold fX5_leadsTo at e
    refine mm_T.seg (f' := (3, [some (.ref 19), some (.int x1), some (.int x2), some (.int x3), some (.int x4), none], [(.int x2), (.int x1), (.ref 19)])) (h' := (107, I, J, mm_rf rv sp rr w nw)) 3 rfl ?_
    obtain ⟨g180, hg180⟩ : ∃ z, fX5_isCell x1 x2 19 I = z := ⟨_, rfl⟩
    try rw [hg180] at e
    refine mm_T.call (t := 66) (as := [(.ref 19), (.int x1), (.int x2)]) (f' := (6, [some (.ref 19), some (.int x1), some (.int x2), some (.int x3), some (.int x4), none], [])) rfl (tX5_isCell (d + 0) x1 x2 19 I J rv sp rr w nw (Or.inr rfl) g180 hg180) (fun v h hq => ?_)
    obtain ⟨rfl, rfl⟩ := hq
    refine mm_T.br (c := g180 = 0) (a := ((28, [some (.ref 19), some (.int x1), some (.int x2), some (.int x3), some (.int x4), none], []), (107, I, J, mm_rf rv sp rr w nw))) (b := ((9, [some (.ref 19), some (.int x1), some (.int x2), some (.int x3), some (.int x4), none], []), (107, I, J, mm_rf rv sp rr w nw))) rfl (fun h1335 => ?_) (fun h1335 => ?_)
    · rw [if_pos h1335] at e
      refine mm_T.seg (f' := (47, [some (.ref 19), some (.int x1), some (.int x2), some (.int x3), some (.int x4), some (.int 0)], [(.int ((x1 + x3) + (x4 * 0))), (.int ((I 19 0) - 1)), (.int 0)])) (h' := (107, I, J, mm_rf rv sp rr w nw)) 14 rfl ?_
      obtain ⟨g181, hg181⟩ : ∃ z, fJ9_min ((I 19 0) - 1) ((x1 + x3) + (x4 * 0)) = z := ⟨_, rfl⟩
      try rw [hg181] at e
      refine mm_T.call (t := 348) (as := [(.int ((I 19 0) - 1)), (.int ((x1 + x3) + (x4 * 0)))]) (f' := (50, [some (.ref 19), some (.int x1), some (.int x2), some (.int x3), some (.int x4), some (.int 0)], [(.int 0)])) rfl (tJ9_min (d + 0) ((I 19 0) - 1) ((x1 + x3) + (x4 * 0)) I J rv sp rr w nw g181 hg181) (fun v h hq => ?_)
      obtain ⟨rfl, rfl⟩ := hq
      obtain ⟨g182, hg182⟩ : ∃ z, fJ9_max 0 g181 = z := ⟨_, rfl⟩
      try rw [hg182] at e
      refine mm_T.call (t := 347) (as := [(.int 0), (.int g181)]) (f' := (53, [some (.ref 19), some (.int x1), some (.int x2), some (.int x3), some (.int x4), some (.int 0)], [])) rfl (tJ9_max (d + 0) 0 g181 I J rv sp rr w nw g182 hg182) (fun v h hq => ?_)
      obtain ⟨rfl, rfl⟩ := hq
      cases e
      exact mm_T.ret rfl ⟨rfl, rfl⟩
    · rw [if_neg h1335] at e
      refine mm_T.seg (f' := (14, [some (.ref 19), some (.int x1), some (.int x2), some (.int x3), some (.int x4), none], [(.ref (19 + 5)), (.int 0)])) (h' := (107, I, J, mm_rf rv sp rr w nw)) 3 rfl ?_
      refine mm_T.seg (f' := (16, [some (.ref 19), some (.int x1), some (.int x2), some (.int x3), some (.int x4), none], [(.int x2), (.int x1), (.ref (19 + 5)), (.int 0)])) (h' := (107, I, J, mm_rf rv sp rr w nw)) 2 rfl ?_
      obtain ⟨g183, hg183⟩ : ∃ z, fX5_cell x1 x2 = z := ⟨_, rfl⟩
      try rw [hg183] at e
      refine mm_T.call (t := 65) (as := [(.int x1), (.int x2)]) (f' := (19, [some (.ref 19), some (.int x1), some (.int x2), some (.int x3), some (.int x4), none], [(.ref (19 + 5)), (.int 0)])) rfl (tX5_cell (d + 0) x1 x2 I J rv sp rr w nw g183 hg183) (fun v h hq => ?_)
      obtain ⟨rfl, rfl⟩ := hq
      refine mm_T.call (t := 204) (as := [(.ref (19 + 5)), (.int g183)]) (f' := (22, [some (.ref 19), some (.int x1), some (.int x2), some (.int x3), some (.int x4), none], [(.int 0)])) rfl (t_pick _ (19 + 5) 56 g183 I J (mm_rf rv sp rr w nw) rfl rfl) (fun v h hq => ?_)
      obtain ⟨rfl, rfl⟩ := hq
      obtain ⟨g184, hg184⟩ : ∃ z, fJ9_max 0 (mf_pick I (19 + 5) 56 g183) = z := ⟨_, rfl⟩
      try rw [hg184] at e
      refine mm_T.call (t := 347) (as := [(.int 0), (.int (mf_pick I (19 + 5) 56 g183))]) (f' := (25, [some (.ref 19), some (.int x1), some (.int x2), some (.int x3), some (.int x4), none], [])) rfl (tJ9_max (d + 0) 0 (mf_pick I (19 + 5) 56 g183) I J rv sp rr w nw g184 hg184) (fun v h hq => ?_)
      obtain ⟨rfl, rfl⟩ := hq
      refine mm_T.seg (f' := (47, [some (.ref 19), some (.int x1), some (.int x2), some (.int x3), some (.int x4), some (.int g184)], [(.int ((x1 + x3) + (x4 * g184))), (.int ((I 19 0) - 1)), (.int 0)])) (h' := (107, I, J, mm_rf rv sp rr w nw)) 14 rfl ?_
      obtain ⟨g185, hg185⟩ : ∃ z, fJ9_min ((I 19 0) - 1) ((x1 + x3) + (x4 * g184)) = z := ⟨_, rfl⟩
      try rw [hg185] at e
      refine mm_T.call (t := 348) (as := [(.int ((I 19 0) - 1)), (.int ((x1 + x3) + (x4 * g184)))]) (f' := (50, [some (.ref 19), some (.int x1), some (.int x2), some (.int x3), some (.int x4), some (.int g184)], [(.int 0)])) rfl (tJ9_min (d + 0) ((I 19 0) - 1) ((x1 + x3) + (x4 * g184)) I J rv sp rr w nw g185 hg185) (fun v h hq => ?_)
      obtain ⟨rfl, rfl⟩ := hq
      obtain ⟨g186, hg186⟩ : ∃ z, fJ9_max 0 g185 = z := ⟨_, rfl⟩
      try rw [hg186] at e
      refine mm_T.call (t := 347) (as := [(.int 0), (.int g185)]) (f' := (53, [some (.ref 19), some (.int x1), some (.int x2), some (.int x3), some (.int x4), some (.int g184)], [])) rfl (tJ9_max (d + 0) 0 g185 I J rv sp rr w nw g186 hg186) (fun v h hq => ?_)
      obtain ⟨rfl, rfl⟩ := hq
      cases e
      exact mm_T.ret rfl ⟨rfl, rfl⟩
set_option maxRecDepth 100000 in
set_option maxHeartbeats 4000000 in
theorem tX5_ironAt (d : Nat) (x1 : Int32) (x2 : Int32) (r : Nat) (I : Nat → Nat → Int32) (J : Nat → Nat → Int64) (rv sp rr w nw : Nat) (hr : r = 3 ∨ r = 19) (out : Int32) (e : fX5_ironAt x1 x2 r I = out) : mm_T none (d + 1) 69 (mm_ent 69 [(.ref r), (.int x1), (.int x2)]) (107, I, J, mm_rf rv sp rr w nw) (fun v h => v = some (.int out) ∧ h = (107, I, J, mm_rf rv sp rr w nw)) := by
  rcases hr with rfl | rfl
  · unfold fX5_ironAt at e
    refine mm_T.seg (f' := (3, [some (.ref 3), some (.int x1), some (.int x2)], [(.int x2), (.int x1), (.ref 3)])) (h' := (107, I, J, mm_rf rv sp rr w nw)) 3 rfl ?_
    obtain ⟨g188, hg188⟩ : ∃ z, fX5_isCell x1 x2 3 I = z := ⟨_, rfl⟩
    try rw [hg188] at e
    refine mm_T.call (t := 66) (as := [(.ref 3), (.int x1), (.int x2)]) (f' := (6, [some (.ref 3), some (.int x1), some (.int x2)], [])) rfl (tX5_isCell (d + 0) x1 x2 3 I J rv sp rr w nw (Or.inl rfl) g188 hg188) (fun v h hq => ?_)
    obtain ⟨rfl, rfl⟩ := hq
    refine mm_T.br (c := g188 = 0) (a := ((28, [some (.ref 3), some (.int x1), some (.int x2)], []), (107, I, J, mm_rf rv sp rr w nw))) (b := ((9, [some (.ref 3), some (.int x1), some (.int x2)], []), (107, I, J, mm_rf rv sp rr w nw))) rfl (fun h1338 => ?_) (fun h1338 => ?_)
    · rw [if_pos h1338] at e
      refine mm_T.seg (f' := (29, [some (.ref 3), some (.int x1), some (.int x2)], [(.int 0)])) (h' := (107, I, J, mm_rf rv sp rr w nw)) 1 rfl ?_
      cases e
      exact mm_T.ret rfl ⟨rfl, rfl⟩
    · rw [if_neg h1338] at e
      refine mm_T.seg (f' := (13, [some (.ref 3), some (.int x1), some (.int x2)], [(.ref (3 + 6))])) (h' := (107, I, J, mm_rf rv sp rr w nw)) 2 rfl ?_
      refine mm_T.seg (f' := (15, [some (.ref 3), some (.int x1), some (.int x2)], [(.int x2), (.int x1), (.ref (3 + 6))])) (h' := (107, I, J, mm_rf rv sp rr w nw)) 2 rfl ?_
      obtain ⟨g189, hg189⟩ : ∃ z, fX5_cell x1 x2 = z := ⟨_, rfl⟩
      try rw [hg189] at e
      refine mm_T.call (t := 65) (as := [(.int x1), (.int x2)]) (f' := (18, [some (.ref 3), some (.int x1), some (.int x2)], [(.ref (3 + 6))])) rfl (tX5_cell (d + 0) x1 x2 I J rv sp rr w nw g189 hg189) (fun v h hq => ?_)
      obtain ⟨rfl, rfl⟩ := hq
      refine mm_T.call (t := 204) (as := [(.ref (3 + 6)), (.int g189)]) (f' := (21, [some (.ref 3), some (.int x1), some (.int x2)], [])) rfl (t_pick _ (3 + 6) 56 g189 I J (mm_rf rv sp rr w nw) rfl rfl) (fun v h hq => ?_)
      obtain ⟨rfl, rfl⟩ := hq
      refine mm_T.br (c := (mf_pick I (3 + 6) 56 g189) = 0) (a := ((28, [some (.ref 3), some (.int x1), some (.int x2)], []), (107, I, J, mm_rf rv sp rr w nw))) (b := ((24, [some (.ref 3), some (.int x1), some (.int x2)], []), (107, I, J, mm_rf rv sp rr w nw))) rfl (fun h1339 => ?_) (fun h1339 => ?_)
      · rw [if_pos h1339] at e
        refine mm_T.seg (f' := (29, [some (.ref 3), some (.int x1), some (.int x2)], [(.int 0)])) (h' := (107, I, J, mm_rf rv sp rr w nw)) 1 rfl ?_
        cases e
        exact mm_T.ret rfl ⟨rfl, rfl⟩
      · rw [if_neg h1339] at e
        refine mm_T.seg (f' := (29, [some (.ref 3), some (.int x1), some (.int x2)], [(.int 1)])) (h' := (107, I, J, mm_rf rv sp rr w nw)) 2 rfl ?_
        cases e
        exact mm_T.ret rfl ⟨rfl, rfl⟩
  · unfold fX5_ironAt at e
    refine mm_T.seg (f' := (3, [some (.ref 19), some (.int x1), some (.int x2)], [(.int x2), (.int x1), (.ref 19)])) (h' := (107, I, J, mm_rf rv sp rr w nw)) 3 rfl ?_
    obtain ⟨g188, hg188⟩ : ∃ z, fX5_isCell x1 x2 19 I = z := ⟨_, rfl⟩
    try rw [hg188] at e
    refine mm_T.call (t := 66) (as := [(.ref 19), (.int x1), (.int x2)]) (f' := (6, [some (.ref 19), some (.int x1), some (.int x2)], [])) rfl (tX5_isCell (d + 0) x1 x2 19 I J rv sp rr w nw (Or.inr rfl) g188 hg188) (fun v h hq => ?_)
    obtain ⟨rfl, rfl⟩ := hq
    refine mm_T.br (c := g188 = 0) (a := ((28, [some (.ref 19), some (.int x1), some (.int x2)], []), (107, I, J, mm_rf rv sp rr w nw))) (b := ((9, [some (.ref 19), some (.int x1), some (.int x2)], []), (107, I, J, mm_rf rv sp rr w nw))) rfl (fun h1338 => ?_) (fun h1338 => ?_)
    · rw [if_pos h1338] at e
      refine mm_T.seg (f' := (29, [some (.ref 19), some (.int x1), some (.int x2)], [(.int 0)])) (h' := (107, I, J, mm_rf rv sp rr w nw)) 1 rfl ?_
      cases e
      exact mm_T.ret rfl ⟨rfl, rfl⟩
    · rw [if_neg h1338] at e
      refine mm_T.seg (f' := (13, [some (.ref 19), some (.int x1), some (.int x2)], [(.ref (19 + 6))])) (h' := (107, I, J, mm_rf rv sp rr w nw)) 2 rfl ?_
      refine mm_T.seg (f' := (15, [some (.ref 19), some (.int x1), some (.int x2)], [(.int x2), (.int x1), (.ref (19 + 6))])) (h' := (107, I, J, mm_rf rv sp rr w nw)) 2 rfl ?_
      obtain ⟨g189, hg189⟩ : ∃ z, fX5_cell x1 x2 = z := ⟨_, rfl⟩
      try rw [hg189] at e
      refine mm_T.call (t := 65) (as := [(.int x1), (.int x2)]) (f' := (18, [some (.ref 19), some (.int x1), some (.int x2)], [(.ref (19 + 6))])) rfl (tX5_cell (d + 0) x1 x2 I J rv sp rr w nw g189 hg189) (fun v h hq => ?_)
      obtain ⟨rfl, rfl⟩ := hq
      refine mm_T.call (t := 204) (as := [(.ref (19 + 6)), (.int g189)]) (f' := (21, [some (.ref 19), some (.int x1), some (.int x2)], [])) rfl (t_pick _ (19 + 6) 56 g189 I J (mm_rf rv sp rr w nw) rfl rfl) (fun v h hq => ?_)
      obtain ⟨rfl, rfl⟩ := hq
      refine mm_T.br (c := (mf_pick I (19 + 6) 56 g189) = 0) (a := ((28, [some (.ref 19), some (.int x1), some (.int x2)], []), (107, I, J, mm_rf rv sp rr w nw))) (b := ((24, [some (.ref 19), some (.int x1), some (.int x2)], []), (107, I, J, mm_rf rv sp rr w nw))) rfl (fun h1339 => ?_) (fun h1339 => ?_)
      · rw [if_pos h1339] at e
        refine mm_T.seg (f' := (29, [some (.ref 19), some (.int x1), some (.int x2)], [(.int 0)])) (h' := (107, I, J, mm_rf rv sp rr w nw)) 1 rfl ?_
        cases e
        exact mm_T.ret rfl ⟨rfl, rfl⟩
      · rw [if_neg h1339] at e
        refine mm_T.seg (f' := (29, [some (.ref 19), some (.int x1), some (.int x2)], [(.int 1)])) (h' := (107, I, J, mm_rf rv sp rr w nw)) 2 rfl ?_
        cases e
        exact mm_T.ret rfl ⟨rfl, rfl⟩
set_option maxRecDepth 100000 in
set_option maxHeartbeats 4000000 in
theorem tlX6_spread_L26 (d : Nat) (Q : Option Value → mm_H → Prop) : ∀ (n : Nat) (y1 : Int32) (y2 : Int32) (y4 : Int32) (y5 : Int32) (y6 : Int32) (I : Nat → Nat → Int32) (J : Nat → Nat → Int64) (rv sp rr w nw : Nat), (rv = 3 ∨ rv = 19) → ∀ (out : Int32), fX6_spread_L26 n y1 y2 y4 y5 y6 I rv = some out → mm_T none (d + 2) 84 (80, [none, some (.int y1), some (.int y2), some (.ref rv), some (.int out), some (.int y5), none, none], []) (107, I, J, mm_rf rv sp rr w nw) Q → mm_T none (d + 2) 84 (26, [none, some (.int y1), some (.int y2), some (.ref rv), some (.int y4), some (.int y5), some (.int y6), none], []) (107, I, J, mm_rf rv sp rr w nw) Q := by
  intro n
  induction n with
  | zero =>
    intro y1 y2 y4 y5 y6 I J rv sp rr w nw hrv out e k
    rw [fX6_spread_L26] at e; cases e
  | succ n ih =>
    intro y1 y2 y4 y5 y6 I J rv sp rr w nw hrv out e k
    rcases hrv with rfl | rfl
    · rw [fX6_spread_L26] at e
      refine mm_T.seg (f' := (29, [none, some (.int y1), some (.int y2), some (.ref 3), some (.int y4), some (.int y5), some (.int y6), none], [(.int 1), (.int y6)])) (h' := (107, I, J, mm_rf 3 sp rr w nw)) 2 rfl ?_
      refine mm_T.br (c := 1 < y6) (a := ((80, [none, some (.int y1), some (.int y2), some (.ref 3), some (.int y4), some (.int y5), some (.int y6), none], []), (107, I, J, mm_rf 3 sp rr w nw))) (b := ((32, [none, some (.int y1), some (.int y2), some (.ref 3), some (.int y4), some (.int y5), some (.int y6), none], []), (107, I, J, mm_rf 3 sp rr w nw))) rfl (fun h1341 => ?_) (fun h1341 => ?_)
      · rw [if_pos h1341] at e
        cases e
        refine mm_T.mask [false, true, true, true, true, true, false, false] ?_
        exact k
      · rw [if_neg h1341] at e
        refine mm_T.seg (f' := (38, [none, some (.int y1), some (.int y2), some (.ref 3), some (.int y4), some (.int y5), some (.int y6), none], [(.int ((y1 >>> (y5 &&& 31)) &&& 1))])) (h' := (107, I, J, mm_rf 3 sp rr w nw)) 5 rfl ?_
        refine mm_T.br (c := ((y1 >>> (y5 &&& 31)) &&& 1) = 0) (a := ((80, [none, some (.int y1), some (.int y2), some (.ref 3), some (.int y4), some (.int y5), some (.int y6), none], []), (107, I, J, mm_rf 3 sp rr w nw))) (b := ((41, [none, some (.int y1), some (.int y2), some (.ref 3), some (.int y4), some (.int y5), some (.int y6), none], []), (107, I, J, mm_rf 3 sp rr w nw))) rfl (fun h1342 => ?_) (fun h1342 => ?_)
        · rw [if_pos h1342] at e
          cases e
          refine mm_T.mask [false, true, true, true, true, true, false, false] ?_
          exact k
        · rw [if_neg h1342] at e
          refine mm_T.seg (f' := (48, [none, some (.int y1), some (.int y2), some (.ref 3), some (.int y4), some (.int y5), some (.int y6), none], [(.int 1), (.int y6), (.int y2), (.int y5), (.ref 3)])) (h' := (107, I, J, mm_rf 3 sp rr w nw)) 5 rfl ?_
          obtain ⟨g191, hg191⟩ : ∃ z, fX5_leadsTo y5 y2 y6 1 3 I = z := ⟨_, rfl⟩
          try rw [hg191] at e
          refine mm_T.call (t := 81) (as := [(.ref 3), (.int y5), (.int y2), (.int y6), (.int 1)]) (f' := (51, [none, some (.int y1), some (.int y2), some (.ref 3), some (.int y4), some (.int y5), some (.int y6), none], [])) rfl (tX5_leadsTo (d + 0) y5 y2 y6 1 3 I J 3 sp rr w nw (Or.inl rfl) g191 hg191) (fun v h hq => ?_)
          obtain ⟨rfl, rfl⟩ := hq
          refine mm_T.seg (f' := (59, [none, some (.int y1), some (.int y2), some (.ref 3), some (.int y4), some (.int y5), some (.int y6), some (.int g191)], [(.int (y2 + 1)), (.int g191), (.ref 3)])) (h' := (107, I, J, mm_rf 3 sp rr w nw)) 6 rfl ?_
          obtain ⟨g192, hg192⟩ : ∃ z, fX5_ironAt g191 (y2 + 1) 3 I = z := ⟨_, rfl⟩
          try rw [hg192] at e
          refine mm_T.call (t := 69) (as := [(.ref 3), (.int g191), (.int (y2 + 1))]) (f' := (62, [none, some (.int y1), some (.int y2), some (.ref 3), some (.int y4), some (.int y5), some (.int y6), some (.int g191)], [])) rfl (tX5_ironAt (d + 0) g191 (y2 + 1) 3 I J 3 sp rr w nw (Or.inl rfl) g192 hg192) (fun v h hq => ?_)
          obtain ⟨rfl, rfl⟩ := hq
          refine mm_T.br (c := g192 = 0) (a := ((65, [none, some (.int y1), some (.int y2), some (.ref 3), some (.int y4), some (.int y5), some (.int y6), some (.int g191)], []), (107, I, J, mm_rf 3 sp rr w nw))) (b := ((74, [none, some (.int y1), some (.int y2), some (.ref 3), some (.int y4), some (.int y5), some (.int y6), some (.int g191)], []), (107, I, J, mm_rf 3 sp rr w nw))) rfl (fun h1343 => ?_) (fun h1343 => ?_)
          · rw [if_pos h1343] at e
            refine mm_T.seg (f' := (26, [none, some (.int y1), some (.int y2), some (.ref 3), some (.int (y4 ||| ((1 : Int32) <<< (g191 &&& 31)))), some (.int y5), some (.int (y6 + 1)), some (.int g191)], [])) (h' := (107, I, J, mm_rf 3 sp rr w nw)) 8 rfl ?_
            refine mm_T.mask [false, true, true, true, true, true, true, false] ?_
            exact ih y1 y2 (y4 ||| ((1 : Int32) <<< (g191 &&& 31))) y5 (y6 + 1) I J 3 sp rr w nw (Or.inl rfl) out e k
          · rw [if_neg h1343] at e
            refine mm_T.seg (f' := (26, [none, some (.int y1), some (.int y2), some (.ref 3), some (.int y4), some (.int y5), some (.int (y6 + 1)), some (.int g191)], [])) (h' := (107, I, J, mm_rf 3 sp rr w nw)) 2 rfl ?_
            refine mm_T.mask [false, true, true, true, true, true, true, false] ?_
            exact ih y1 y2 y4 y5 (y6 + 1) I J 3 sp rr w nw (Or.inl rfl) out e k
    · rw [fX6_spread_L26] at e
      refine mm_T.seg (f' := (29, [none, some (.int y1), some (.int y2), some (.ref 19), some (.int y4), some (.int y5), some (.int y6), none], [(.int 1), (.int y6)])) (h' := (107, I, J, mm_rf 19 sp rr w nw)) 2 rfl ?_
      refine mm_T.br (c := 1 < y6) (a := ((80, [none, some (.int y1), some (.int y2), some (.ref 19), some (.int y4), some (.int y5), some (.int y6), none], []), (107, I, J, mm_rf 19 sp rr w nw))) (b := ((32, [none, some (.int y1), some (.int y2), some (.ref 19), some (.int y4), some (.int y5), some (.int y6), none], []), (107, I, J, mm_rf 19 sp rr w nw))) rfl (fun h1341 => ?_) (fun h1341 => ?_)
      · rw [if_pos h1341] at e
        cases e
        refine mm_T.mask [false, true, true, true, true, true, false, false] ?_
        exact k
      · rw [if_neg h1341] at e
        refine mm_T.seg (f' := (38, [none, some (.int y1), some (.int y2), some (.ref 19), some (.int y4), some (.int y5), some (.int y6), none], [(.int ((y1 >>> (y5 &&& 31)) &&& 1))])) (h' := (107, I, J, mm_rf 19 sp rr w nw)) 5 rfl ?_
        refine mm_T.br (c := ((y1 >>> (y5 &&& 31)) &&& 1) = 0) (a := ((80, [none, some (.int y1), some (.int y2), some (.ref 19), some (.int y4), some (.int y5), some (.int y6), none], []), (107, I, J, mm_rf 19 sp rr w nw))) (b := ((41, [none, some (.int y1), some (.int y2), some (.ref 19), some (.int y4), some (.int y5), some (.int y6), none], []), (107, I, J, mm_rf 19 sp rr w nw))) rfl (fun h1342 => ?_) (fun h1342 => ?_)
        · rw [if_pos h1342] at e
          cases e
          refine mm_T.mask [false, true, true, true, true, true, false, false] ?_
          exact k
        · rw [if_neg h1342] at e
          refine mm_T.seg (f' := (48, [none, some (.int y1), some (.int y2), some (.ref 19), some (.int y4), some (.int y5), some (.int y6), none], [(.int 1), (.int y6), (.int y2), (.int y5), (.ref 19)])) (h' := (107, I, J, mm_rf 19 sp rr w nw)) 5 rfl ?_
          obtain ⟨g191, hg191⟩ : ∃ z, fX5_leadsTo y5 y2 y6 1 19 I = z := ⟨_, rfl⟩
          try rw [hg191] at e
          refine mm_T.call (t := 81) (as := [(.ref 19), (.int y5), (.int y2), (.int y6), (.int 1)]) (f' := (51, [none, some (.int y1), some (.int y2), some (.ref 19), some (.int y4), some (.int y5), some (.int y6), none], [])) rfl (tX5_leadsTo (d + 0) y5 y2 y6 1 19 I J 19 sp rr w nw (Or.inr rfl) g191 hg191) (fun v h hq => ?_)
          obtain ⟨rfl, rfl⟩ := hq
          refine mm_T.seg (f' := (59, [none, some (.int y1), some (.int y2), some (.ref 19), some (.int y4), some (.int y5), some (.int y6), some (.int g191)], [(.int (y2 + 1)), (.int g191), (.ref 19)])) (h' := (107, I, J, mm_rf 19 sp rr w nw)) 6 rfl ?_
          obtain ⟨g192, hg192⟩ : ∃ z, fX5_ironAt g191 (y2 + 1) 19 I = z := ⟨_, rfl⟩
          try rw [hg192] at e
          refine mm_T.call (t := 69) (as := [(.ref 19), (.int g191), (.int (y2 + 1))]) (f' := (62, [none, some (.int y1), some (.int y2), some (.ref 19), some (.int y4), some (.int y5), some (.int y6), some (.int g191)], [])) rfl (tX5_ironAt (d + 0) g191 (y2 + 1) 19 I J 19 sp rr w nw (Or.inr rfl) g192 hg192) (fun v h hq => ?_)
          obtain ⟨rfl, rfl⟩ := hq
          refine mm_T.br (c := g192 = 0) (a := ((65, [none, some (.int y1), some (.int y2), some (.ref 19), some (.int y4), some (.int y5), some (.int y6), some (.int g191)], []), (107, I, J, mm_rf 19 sp rr w nw))) (b := ((74, [none, some (.int y1), some (.int y2), some (.ref 19), some (.int y4), some (.int y5), some (.int y6), some (.int g191)], []), (107, I, J, mm_rf 19 sp rr w nw))) rfl (fun h1343 => ?_) (fun h1343 => ?_)
          · rw [if_pos h1343] at e
            refine mm_T.seg (f' := (26, [none, some (.int y1), some (.int y2), some (.ref 19), some (.int (y4 ||| ((1 : Int32) <<< (g191 &&& 31)))), some (.int y5), some (.int (y6 + 1)), some (.int g191)], [])) (h' := (107, I, J, mm_rf 19 sp rr w nw)) 8 rfl ?_
            refine mm_T.mask [false, true, true, true, true, true, true, false] ?_
            exact ih y1 y2 (y4 ||| ((1 : Int32) <<< (g191 &&& 31))) y5 (y6 + 1) I J 19 sp rr w nw (Or.inr rfl) out e k
          · rw [if_neg h1343] at e
            refine mm_T.seg (f' := (26, [none, some (.int y1), some (.int y2), some (.ref 19), some (.int y4), some (.int y5), some (.int (y6 + 1)), some (.int g191)], [])) (h' := (107, I, J, mm_rf 19 sp rr w nw)) 2 rfl ?_
            refine mm_T.mask [false, true, true, true, true, true, true, false] ?_
            exact ih y1 y2 y4 y5 (y6 + 1) I J 19 sp rr w nw (Or.inr rfl) out e k
set_option maxRecDepth 100000 in
set_option maxHeartbeats 4000000 in
theorem tlX6_spread_L14 (d : Nat) (Q : Option Value → mm_H → Prop) : ∀ (n : Nat) (y1 : Int32) (y2 : Int32) (y4 : Int32) (y5 : Int32) (I : Nat → Nat → Int32) (J : Nat → Nat → Int64) (rv sp rr w nw : Nat), (rv = 3 ∨ rv = 19) → ∀ (out : Int32), fX6_spread_L14 n y1 y2 y4 y5 I rv = some out → mm_T none (d + 2) 84 (86, [none, none, none, none, some (.int out), none, none, none], []) (107, I, J, mm_rf rv sp rr w nw) Q → mm_T none (d + 2) 84 (14, [none, some (.int y1), some (.int y2), some (.ref rv), some (.int y4), some (.int y5), none, none], []) (107, I, J, mm_rf rv sp rr w nw) Q := by
  intro n
  induction n with
  | zero =>
    intro y1 y2 y4 y5 I J rv sp rr w nw hrv out e k
    rw [fX6_spread_L14] at e; cases e
  | succ n ih =>
    intro y1 y2 y4 y5 I J rv sp rr w nw hrv out e k
    rcases hrv with rfl | rfl
    · rw [fX6_spread_L14] at e
      refine mm_T.seg (f' := (20, [none, some (.int y1), some (.int y2), some (.ref 3), some (.int y4), some (.int y5), none, none], [(.int (I 3 0)), (.int y5)])) (h' := (107, I, J, mm_rf 3 sp rr w nw)) 3 rfl ?_
      refine mm_T.br (c := y5 < (I 3 0)) (a := ((23, [none, some (.int y1), some (.int y2), some (.ref 3), some (.int y4), some (.int y5), none, none], []), (107, I, J, mm_rf 3 sp rr w nw))) (b := ((86, [none, some (.int y1), some (.int y2), some (.ref 3), some (.int y4), some (.int y5), none, none], []), (107, I, J, mm_rf 3 sp rr w nw))) rfl (fun h1345 => ?_) (fun h1345 => ?_)
      · rw [if_pos h1345] at e
        refine mm_T.seg (f' := (26, [none, some (.int y1), some (.int y2), some (.ref 3), some (.int y4), some (.int y5), some (.int (-1)), none], [])) (h' := (107, I, J, mm_rf 3 sp rr w nw)) 2 rfl ?_
        refine mm_T.mask [false, true, true, true, true, true, true, false] ?_
        obtain ⟨o1346, eo1346, e⟩ := mm_bind e
        refine tlX6_spread_L26 d _ n y1 y2 y4 y5 (-1) I J 3 sp rr w nw (Or.inl rfl) o1346 eo1346 ?_
        refine mm_T.seg (f' := (14, [none, some (.int y1), some (.int y2), some (.ref 3), some (.int o1346), some (.int (y5 + 1)), none, none], [])) (h' := (107, I, J, mm_rf 3 sp rr w nw)) 2 rfl ?_
        refine mm_T.mask [false, true, true, true, true, true, false, false] ?_
        exact ih y1 y2 o1346 (y5 + 1) I J 3 sp rr w nw (Or.inl rfl) out e k
      · rw [if_neg h1345] at e
        cases e
        refine mm_T.mask [false, false, false, false, true, false, false, false] ?_
        exact k
    · rw [fX6_spread_L14] at e
      refine mm_T.seg (f' := (20, [none, some (.int y1), some (.int y2), some (.ref 19), some (.int y4), some (.int y5), none, none], [(.int (I 19 0)), (.int y5)])) (h' := (107, I, J, mm_rf 19 sp rr w nw)) 3 rfl ?_
      refine mm_T.br (c := y5 < (I 19 0)) (a := ((23, [none, some (.int y1), some (.int y2), some (.ref 19), some (.int y4), some (.int y5), none, none], []), (107, I, J, mm_rf 19 sp rr w nw))) (b := ((86, [none, some (.int y1), some (.int y2), some (.ref 19), some (.int y4), some (.int y5), none, none], []), (107, I, J, mm_rf 19 sp rr w nw))) rfl (fun h1345 => ?_) (fun h1345 => ?_)
      · rw [if_pos h1345] at e
        refine mm_T.seg (f' := (26, [none, some (.int y1), some (.int y2), some (.ref 19), some (.int y4), some (.int y5), some (.int (-1)), none], [])) (h' := (107, I, J, mm_rf 19 sp rr w nw)) 2 rfl ?_
        refine mm_T.mask [false, true, true, true, true, true, true, false] ?_
        obtain ⟨o1346, eo1346, e⟩ := mm_bind e
        refine tlX6_spread_L26 d _ n y1 y2 y4 y5 (-1) I J 19 sp rr w nw (Or.inr rfl) o1346 eo1346 ?_
        refine mm_T.seg (f' := (14, [none, some (.int y1), some (.int y2), some (.ref 19), some (.int o1346), some (.int (y5 + 1)), none, none], [])) (h' := (107, I, J, mm_rf 19 sp rr w nw)) 2 rfl ?_
        refine mm_T.mask [false, true, true, true, true, true, false, false] ?_
        exact ih y1 y2 o1346 (y5 + 1) I J 19 sp rr w nw (Or.inr rfl) out e k
      · rw [if_neg h1345] at e
        cases e
        refine mm_T.mask [false, false, false, false, true, false, false, false] ?_
        exact k
set_option maxRecDepth 100000 in
set_option maxHeartbeats 4000000 in
theorem tX6_spread (d n : Nat) (x1 : Int32) (x2 : Int32) (I : Nat → Nat → Int32) (J : Nat → Nat → Int64) (rv sp rr w nw : Nat) (hrv : rv = 3 ∨ rv = 19) (out : Int32) (e : fX6_spread n x1 x2 I rv = some out) : mm_T none (d + 2) 84 (mm_ent 84 [(.ref 37), (.int x1), (.int x2)]) (107, I, J, mm_rf rv sp rr w nw) (fun v h => v = some (.int out) ∧ h = (107, I, J, mm_rf rv sp rr w nw)) := by
  rcases hrv with rfl | rfl
  · unfold fX6_spread at e
    refine mm_T.seg (f' := (4, [some (.ref 37), some (.int x1), some (.int x2), none, none, none, none, none], [(.ref 18)])) (h' := (107, I, J, mm_rf 3 sp rr w nw)) 2 rfl ?_
    refine mm_T.seg (f' := (14, [some (.ref 37), some (.int x1), some (.int x2), some (.ref 3), some (.int 0), some (.int 0), none, none], [])) (h' := (107, I, J, mm_rf 3 sp rr w nw)) 6 rfl ?_
    refine mm_T.mask [false, true, true, true, true, true, false, false] ?_
    obtain ⟨o1347, eo1347, e⟩ := mm_bind e
    refine tlX6_spread_L14 d _ n x1 x2 0 0 I J 3 sp rr w nw (Or.inl rfl) o1347 eo1347 ?_
    refine mm_T.seg (f' := (88, [none, none, none, none, some (.int o1347), none, none, none], [(.int o1347)])) (h' := (107, I, J, mm_rf 3 sp rr w nw)) 1 rfl ?_
    cases e
    exact mm_T.ret rfl ⟨rfl, rfl⟩
  · unfold fX6_spread at e
    refine mm_T.seg (f' := (4, [some (.ref 37), some (.int x1), some (.int x2), none, none, none, none, none], [(.ref 18)])) (h' := (107, I, J, mm_rf 19 sp rr w nw)) 2 rfl ?_
    refine mm_T.seg (f' := (14, [some (.ref 37), some (.int x1), some (.int x2), some (.ref 19), some (.int 0), some (.int 0), none, none], [])) (h' := (107, I, J, mm_rf 19 sp rr w nw)) 6 rfl ?_
    refine mm_T.mask [false, true, true, true, true, true, false, false] ?_
    obtain ⟨o1347, eo1347, e⟩ := mm_bind e
    refine tlX6_spread_L14 d _ n x1 x2 0 0 I J 19 sp rr w nw (Or.inr rfl) o1347 eo1347 ?_
    refine mm_T.seg (f' := (88, [none, none, none, none, some (.int o1347), none, none, none], [(.int o1347)])) (h' := (107, I, J, mm_rf 19 sp rr w nw)) 1 rfl ?_
    cases e
    exact mm_T.ret rfl ⟨rfl, rfl⟩
set_option maxRecDepth 100000 in
set_option maxHeartbeats 4000000 in
theorem tlX6_landingBits_L20 (d : Nat) (Q : Option Value → mm_H → Prop) : ∀ (n : Nat) (y2 : Int32) (y3 : Int32) (I : Nat → Nat → Int32) (J : Nat → Nat → Int64) (rv sp rr w nw : Nat), (rv = 3 ∨ rv = 19) → ∀ (out : Int32), fX6_landingBits_L20 n y2 y3 I rv = some out → mm_T none (d + 3) 85 (47, [none, none, some (.int out), none], []) (107, I, J, mm_rf rv sp rr w nw) Q → mm_T none (d + 3) 85 (20, [some (.ref 37), none, some (.int y2), some (.int y3)], []) (107, I, J, mm_rf rv sp rr w nw) Q := by
  intro n
  induction n with
  | zero =>
    intro y2 y3 I J rv sp rr w nw hrv out e k
    rw [fX6_landingBits_L20] at e; cases e
  | succ n ih =>
    intro y2 y3 I J rv sp rr w nw hrv out e k
    rcases hrv with rfl | rfl
    · rw [fX6_landingBits_L20] at e
      refine mm_T.seg (f' := (25, [some (.ref 37), none, some (.int y2), some (.int y3)], [(.ref 18), (.int y3)])) (h' := (107, I, J, mm_rf 3 sp rr w nw)) 3 rfl ?_
      refine mm_T.seg (f' := (31, [some (.ref 37), none, some (.int y2), some (.int y3)], [(.int (I 3 1)), (.int y3)])) (h' := (107, I, J, mm_rf 3 sp rr w nw)) 2 rfl ?_
      refine mm_T.br (c := y3 < (I 3 1)) (a := ((34, [some (.ref 37), none, some (.int y2), some (.int y3)], []), (107, I, J, mm_rf 3 sp rr w nw))) (b := ((47, [some (.ref 37), none, some (.int y2), some (.int y3)], []), (107, I, J, mm_rf 3 sp rr w nw))) rfl (fun h1349 => ?_) (fun h1349 => ?_)
      · rw [if_pos h1349] at e
        refine mm_T.seg (f' := (37, [some (.ref 37), none, some (.int y2), some (.int y3)], [(.int y3), (.int y2), (.ref 37)])) (h' := (107, I, J, mm_rf 3 sp rr w nw)) 3 rfl ?_
        obtain ⟨o1350, eo1350, e⟩ := mm_bind e
        refine mm_T.call (t := 84) (as := [(.ref 37), (.int y2), (.int y3)]) (f' := (40, [some (.ref 37), none, some (.int y2), some (.int y3)], [])) rfl (tX6_spread (d + 0) n y2 y3 I J 3 sp rr w nw (Or.inl rfl) o1350 eo1350) (fun v h hq => ?_)
        obtain ⟨rfl, rfl⟩ := hq
        refine mm_T.seg (f' := (20, [some (.ref 37), none, some (.int o1350), some (.int (y3 + 1))], [])) (h' := (107, I, J, mm_rf 3 sp rr w nw)) 3 rfl ?_
        refine mm_T.mask [true, false, true, true] ?_
        exact ih o1350 (y3 + 1) I J 3 sp rr w nw (Or.inl rfl) out e k
      · rw [if_neg h1349] at e
        cases e
        refine mm_T.mask [false, false, true, false] ?_
        exact k
    · rw [fX6_landingBits_L20] at e
      refine mm_T.seg (f' := (25, [some (.ref 37), none, some (.int y2), some (.int y3)], [(.ref 18), (.int y3)])) (h' := (107, I, J, mm_rf 19 sp rr w nw)) 3 rfl ?_
      refine mm_T.seg (f' := (31, [some (.ref 37), none, some (.int y2), some (.int y3)], [(.int (I 19 1)), (.int y3)])) (h' := (107, I, J, mm_rf 19 sp rr w nw)) 2 rfl ?_
      refine mm_T.br (c := y3 < (I 19 1)) (a := ((34, [some (.ref 37), none, some (.int y2), some (.int y3)], []), (107, I, J, mm_rf 19 sp rr w nw))) (b := ((47, [some (.ref 37), none, some (.int y2), some (.int y3)], []), (107, I, J, mm_rf 19 sp rr w nw))) rfl (fun h1349 => ?_) (fun h1349 => ?_)
      · rw [if_pos h1349] at e
        refine mm_T.seg (f' := (37, [some (.ref 37), none, some (.int y2), some (.int y3)], [(.int y3), (.int y2), (.ref 37)])) (h' := (107, I, J, mm_rf 19 sp rr w nw)) 3 rfl ?_
        obtain ⟨o1350, eo1350, e⟩ := mm_bind e
        refine mm_T.call (t := 84) (as := [(.ref 37), (.int y2), (.int y3)]) (f' := (40, [some (.ref 37), none, some (.int y2), some (.int y3)], [])) rfl (tX6_spread (d + 0) n y2 y3 I J 19 sp rr w nw (Or.inr rfl) o1350 eo1350) (fun v h hq => ?_)
        obtain ⟨rfl, rfl⟩ := hq
        refine mm_T.seg (f' := (20, [some (.ref 37), none, some (.int o1350), some (.int (y3 + 1))], [])) (h' := (107, I, J, mm_rf 19 sp rr w nw)) 3 rfl ?_
        refine mm_T.mask [true, false, true, true] ?_
        exact ih o1350 (y3 + 1) I J 19 sp rr w nw (Or.inr rfl) out e k
      · rw [if_neg h1349] at e
        cases e
        refine mm_T.mask [false, false, true, false] ?_
        exact k
set_option maxRecDepth 100000 in
set_option maxHeartbeats 4000000 in
theorem tX6_landingBits (d n : Nat) (x1 : Int32) (I : Nat → Nat → Int32) (J : Nat → Nat → Int64) (rv sp rr w nw : Nat) (hrv : rv = 3 ∨ rv = 19) (out : Int32) (e : fX6_landingBits n x1 I rv = some out) : mm_T none (d + 3) 85 (mm_ent 85 [(.ref 37), (.int x1)]) (107, I, J, mm_rf rv sp rr w nw) (fun v h => v = some (.int out) ∧ h = (107, I, J, mm_rf rv sp rr w nw)) := by
  rcases hrv with rfl | rfl
  · unfold fX6_landingBits at e
    refine mm_T.seg (f' := (5, [some (.ref 37), some (.int x1), none, none], [(.ref 18), (.int 1)])) (h' := (107, I, J, mm_rf 3 sp rr w nw)) 3 rfl ?_
    refine mm_T.seg (f' := (6, [some (.ref 37), some (.int x1), none, none], [(.int x1), (.ref 18), (.int 1)])) (h' := (107, I, J, mm_rf 3 sp rr w nw)) 1 rfl ?_
    obtain ⟨g178, hg178⟩ : ∃ z, fX7_columnOf x1 I = z := ⟨_, rfl⟩
    try rw [hg178] at e
    refine mm_T.call (t := 105) (as := [(.ref 18), (.int x1)]) (f' := (9, [some (.ref 37), some (.int x1), none, none], [(.int 1)])) rfl (tX7_columnOf (d + 0) x1 I J 3 sp rr w nw g178 hg178) (fun v h hq => ?_)
    obtain ⟨rfl, rfl⟩ := hq
    refine mm_T.seg (f' := (15, [some (.ref 37), some (.int x1), some (.int ((1 : Int32) <<< (g178 &&& 31))), none], [(.ref 18)])) (h' := (107, I, J, mm_rf 3 sp rr w nw)) 4 rfl ?_
    refine mm_T.seg (f' := (16, [some (.ref 37), some (.int x1), some (.int ((1 : Int32) <<< (g178 &&& 31))), none], [(.int x1), (.ref 18)])) (h' := (107, I, J, mm_rf 3 sp rr w nw)) 1 rfl ?_
    obtain ⟨g179, hg179⟩ : ∃ z, fX7_rowOf x1 I = z := ⟨_, rfl⟩
    try rw [hg179] at e
    refine mm_T.call (t := 106) (as := [(.ref 18), (.int x1)]) (f' := (19, [some (.ref 37), some (.int x1), some (.int ((1 : Int32) <<< (g178 &&& 31))), none], [])) rfl (tX7_rowOf (d + 0) x1 I J 3 sp rr w nw g179 hg179) (fun v h hq => ?_)
    obtain ⟨rfl, rfl⟩ := hq
    refine mm_T.seg (f' := (20, [some (.ref 37), some (.int x1), some (.int ((1 : Int32) <<< (g178 &&& 31))), some (.int g179)], [])) (h' := (107, I, J, mm_rf 3 sp rr w nw)) 1 rfl ?_
    refine mm_T.mask [true, false, true, true] ?_
    obtain ⟨o1351, eo1351, e⟩ := mm_bind e
    refine tlX6_landingBits_L20 d _ n ((1 : Int32) <<< (g178 &&& 31)) g179 I J 3 sp rr w nw (Or.inl rfl) o1351 eo1351 ?_
    refine mm_T.seg (f' := (48, [none, none, some (.int o1351), none], [(.int o1351)])) (h' := (107, I, J, mm_rf 3 sp rr w nw)) 1 rfl ?_
    cases e
    exact mm_T.ret rfl ⟨rfl, rfl⟩
  · unfold fX6_landingBits at e
    refine mm_T.seg (f' := (5, [some (.ref 37), some (.int x1), none, none], [(.ref 18), (.int 1)])) (h' := (107, I, J, mm_rf 19 sp rr w nw)) 3 rfl ?_
    refine mm_T.seg (f' := (6, [some (.ref 37), some (.int x1), none, none], [(.int x1), (.ref 18), (.int 1)])) (h' := (107, I, J, mm_rf 19 sp rr w nw)) 1 rfl ?_
    obtain ⟨g178, hg178⟩ : ∃ z, fX7_columnOf x1 I = z := ⟨_, rfl⟩
    try rw [hg178] at e
    refine mm_T.call (t := 105) (as := [(.ref 18), (.int x1)]) (f' := (9, [some (.ref 37), some (.int x1), none, none], [(.int 1)])) rfl (tX7_columnOf (d + 0) x1 I J 19 sp rr w nw g178 hg178) (fun v h hq => ?_)
    obtain ⟨rfl, rfl⟩ := hq
    refine mm_T.seg (f' := (15, [some (.ref 37), some (.int x1), some (.int ((1 : Int32) <<< (g178 &&& 31))), none], [(.ref 18)])) (h' := (107, I, J, mm_rf 19 sp rr w nw)) 4 rfl ?_
    refine mm_T.seg (f' := (16, [some (.ref 37), some (.int x1), some (.int ((1 : Int32) <<< (g178 &&& 31))), none], [(.int x1), (.ref 18)])) (h' := (107, I, J, mm_rf 19 sp rr w nw)) 1 rfl ?_
    obtain ⟨g179, hg179⟩ : ∃ z, fX7_rowOf x1 I = z := ⟨_, rfl⟩
    try rw [hg179] at e
    refine mm_T.call (t := 106) (as := [(.ref 18), (.int x1)]) (f' := (19, [some (.ref 37), some (.int x1), some (.int ((1 : Int32) <<< (g178 &&& 31))), none], [])) rfl (tX7_rowOf (d + 0) x1 I J 19 sp rr w nw g179 hg179) (fun v h hq => ?_)
    obtain ⟨rfl, rfl⟩ := hq
    refine mm_T.seg (f' := (20, [some (.ref 37), some (.int x1), some (.int ((1 : Int32) <<< (g178 &&& 31))), some (.int g179)], [])) (h' := (107, I, J, mm_rf 19 sp rr w nw)) 1 rfl ?_
    refine mm_T.mask [true, false, true, true] ?_
    obtain ⟨o1351, eo1351, e⟩ := mm_bind e
    refine tlX6_landingBits_L20 d _ n ((1 : Int32) <<< (g178 &&& 31)) g179 I J 19 sp rr w nw (Or.inr rfl) o1351 eo1351 ?_
    refine mm_T.seg (f' := (48, [none, none, some (.int o1351), none], [(.int o1351)])) (h' := (107, I, J, mm_rf 19 sp rr w nw)) 1 rfl ?_
    cases e
    exact mm_T.ret rfl ⟨rfl, rfl⟩
