set_option maxRecDepth 100000 in
set_option maxHeartbeats 4000000 in
theorem tX12_about (d : Nat) (x1 : Int32) (I : Nat → Nat → Int32) (J : Nat → Nat → Int64) (rv sp rr w nw : Nat) (out : Int32) (e : fX12_about x1 I = out) : mm_T none (d + 0) 331 (mm_ent 331 [(.ref 62), (.int x1)]) (107, I, J, mm_rf rv sp rr w nw) (fun v h => v = some (.int out) ∧ h = (107, I, J, mm_rf rv sp rr w nw)) := by
  unfold fX12_about at e
  refine mm_T.seg (f' := (1, [some (.ref 62), some (.int x1)], [(.int x1)])) (h' := (107, I, J, mm_rf rv sp rr w nw)) 1 rfl ?_
  by_cases h1281 : x1 = 0
  · rw [if_pos h1281] at e
    refine mm_T.step (f' := (68, [some (.ref 62), some (.int x1)], [])) (h' := (107, I, J, mm_rf rv sp rr w nw)) (by rw [h1281]; rfl) ?_
    refine mm_T.seg (f' := (72, [some (.ref 62), some (.int x1)], [(.int (I 62 48))])) (h' := (107, I, J, mm_rf rv sp rr w nw)) 2 rfl ?_
    cases e
    exact mm_T.ret rfl ⟨rfl, rfl⟩
  · rw [if_neg h1281] at e
    by_cases h1282 : x1 = 1
    · rw [if_pos h1282] at e
      refine mm_T.step (f' := (73, [some (.ref 62), some (.int x1)], [])) (h' := (107, I, J, mm_rf rv sp rr w nw)) (by rw [h1282]; rfl) ?_
      refine mm_T.seg (f' := (77, [some (.ref 62), some (.int x1)], [(.int (I 62 49))])) (h' := (107, I, J, mm_rf rv sp rr w nw)) 2 rfl ?_
      cases e
      exact mm_T.ret rfl ⟨rfl, rfl⟩
    · rw [if_neg h1282] at e
      by_cases h1283 : x1 = 2
      · rw [if_pos h1283] at e
        refine mm_T.step (f' := (78, [some (.ref 62), some (.int x1)], [])) (h' := (107, I, J, mm_rf rv sp rr w nw)) (by rw [h1283]; rfl) ?_
        refine mm_T.seg (f' := (82, [some (.ref 62), some (.int x1)], [(.int (I 62 46))])) (h' := (107, I, J, mm_rf rv sp rr w nw)) 2 rfl ?_
        cases e
        exact mm_T.ret rfl ⟨rfl, rfl⟩
      · rw [if_neg h1283] at e
        by_cases h1284 : x1 = 3
        · rw [if_pos h1284] at e
          refine mm_T.step (f' := (83, [some (.ref 62), some (.int x1)], [])) (h' := (107, I, J, mm_rf rv sp rr w nw)) (by rw [h1284]; rfl) ?_
          refine mm_T.seg (f' := (87, [some (.ref 62), some (.int x1)], [(.int (I 62 47))])) (h' := (107, I, J, mm_rf rv sp rr w nw)) 2 rfl ?_
          cases e
          exact mm_T.ret rfl ⟨rfl, rfl⟩
        · rw [if_neg h1284] at e
          by_cases h1285 : x1 = 4
          · rw [if_pos h1285] at e
            refine mm_T.step (f' := (88, [some (.ref 62), some (.int x1)], [])) (h' := (107, I, J, mm_rf rv sp rr w nw)) (by rw [h1285]; rfl) ?_
            refine mm_T.seg (f' := (92, [some (.ref 62), some (.int x1)], [(.int (I 62 50))])) (h' := (107, I, J, mm_rf rv sp rr w nw)) 2 rfl ?_
            cases e
            exact mm_T.ret rfl ⟨rfl, rfl⟩
          · rw [if_neg h1285] at e
            by_cases h1286 : x1 = 5
            · rw [if_pos h1286] at e
              refine mm_T.step (f' := (93, [some (.ref 62), some (.int x1)], [])) (h' := (107, I, J, mm_rf rv sp rr w nw)) (by rw [h1286]; rfl) ?_
              refine mm_T.seg (f' := (100, [some (.ref 62), some (.int x1)], [(.int (I 84 27))])) (h' := (107, I, J, mm_rf rv sp rr w nw)) 4 rfl ?_
              cases e
              exact mm_T.ret rfl ⟨rfl, rfl⟩
            · rw [if_neg h1286] at e
              by_cases h1287 : x1 = 6
              · rw [if_pos h1287] at e
                refine mm_T.step (f' := (101, [some (.ref 62), some (.int x1)], [])) (h' := (107, I, J, mm_rf rv sp rr w nw)) (by rw [h1287]; rfl) ?_
                refine mm_T.seg (f' := (105, [some (.ref 62), some (.int x1)], [(.int (I 62 57))])) (h' := (107, I, J, mm_rf rv sp rr w nw)) 2 rfl ?_
                cases e
                exact mm_T.ret rfl ⟨rfl, rfl⟩
              · rw [if_neg h1287] at e
                by_cases h1288 : x1 = 7
                · rw [if_pos h1288] at e
                  refine mm_T.step (f' := (106, [some (.ref 62), some (.int x1)], [])) (h' := (107, I, J, mm_rf rv sp rr w nw)) (by rw [h1288]; rfl) ?_
                  refine mm_T.seg (f' := (110, [some (.ref 62), some (.int x1)], [(.int (I 62 58))])) (h' := (107, I, J, mm_rf rv sp rr w nw)) 2 rfl ?_
                  cases e
                  exact mm_T.ret rfl ⟨rfl, rfl⟩
                · rw [if_neg h1288] at e
                  by_cases h1289 : x1 = 8
                  · rw [if_pos h1289] at e
                    refine mm_T.step (f' := (111, [some (.ref 62), some (.int x1)], [])) (h' := (107, I, J, mm_rf rv sp rr w nw)) (by rw [h1289]; rfl) ?_
                    refine mm_T.seg (f' := (115, [some (.ref 62), some (.int x1)], [(.int (I 62 75))])) (h' := (107, I, J, mm_rf rv sp rr w nw)) 2 rfl ?_
                    cases e
                    exact mm_T.ret rfl ⟨rfl, rfl⟩
                  · rw [if_neg h1289] at e
                    by_cases h1290 : x1 = 9
                    · rw [if_pos h1290] at e
                      refine mm_T.step (f' := (116, [some (.ref 62), some (.int x1)], [])) (h' := (107, I, J, mm_rf rv sp rr w nw)) (by rw [h1290]; rfl) ?_
                      refine mm_T.seg (f' := (120, [some (.ref 62), some (.int x1)], [(.int (I 62 76))])) (h' := (107, I, J, mm_rf rv sp rr w nw)) 2 rfl ?_
                      cases e
                      exact mm_T.ret rfl ⟨rfl, rfl⟩
                    · rw [if_neg h1290] at e
                      by_cases h1291 : x1 = 10
                      · rw [if_pos h1291] at e
                        refine mm_T.step (f' := (121, [some (.ref 62), some (.int x1)], [])) (h' := (107, I, J, mm_rf rv sp rr w nw)) (by rw [h1291]; rfl) ?_
                        refine mm_T.seg (f' := (125, [some (.ref 62), some (.int x1)], [(.int (I 62 1))])) (h' := (107, I, J, mm_rf rv sp rr w nw)) 2 rfl ?_
                        cases e
                        exact mm_T.ret rfl ⟨rfl, rfl⟩
                      · rw [if_neg h1291] at e
                        by_cases h1292 : x1 = 11
                        · rw [if_pos h1292] at e
                          refine mm_T.step (f' := (126, [some (.ref 62), some (.int x1)], [])) (h' := (107, I, J, mm_rf rv sp rr w nw)) (by rw [h1292]; rfl) ?_
                          refine mm_T.seg (f' := (130, [some (.ref 62), some (.int x1)], [(.int (I 62 21))])) (h' := (107, I, J, mm_rf rv sp rr w nw)) 2 rfl ?_
                          cases e
                          exact mm_T.ret rfl ⟨rfl, rfl⟩
                        · rw [if_neg h1292] at e
                          by_cases h1293 : x1 = 12
                          · rw [if_pos h1293] at e
                            refine mm_T.step (f' := (131, [some (.ref 62), some (.int x1)], [])) (h' := (107, I, J, mm_rf rv sp rr w nw)) (by rw [h1293]; rfl) ?_
                            refine mm_T.seg (f' := (135, [some (.ref 62), some (.int x1)], [(.int (I 62 61))])) (h' := (107, I, J, mm_rf rv sp rr w nw)) 2 rfl ?_
                            cases e
                            exact mm_T.ret rfl ⟨rfl, rfl⟩
                          · rw [if_neg h1293] at e
                            refine mm_T.tabs (lo := 0) (hi := 12) (y := ((136, [some (.ref 62), some (.int x1)], []), (107, I, J, mm_rf rv sp rr w nw))) rfl (mm_swo 0 12 x1 [0, 1, 2, 3, 4, 5, 6, 7, 8, 9, 10, 11, 12] (by decide) (by intro z hz; simp only [List.mem_cons, List.not_mem_nil, or_false] at hz; rcases hz with rfl | rfl | rfl | rfl | rfl | rfl | rfl | rfl | rfl | rfl | rfl | rfl | rfl <;> assumption)) ?_
                            refine mm_T.seg (f' := (137, [some (.ref 62), some (.int x1)], [(.int (-1))])) (h' := (107, I, J, mm_rf rv sp rr w nw)) 1 rfl ?_
                            cases e
                            exact mm_T.ret rfl ⟨rfl, rfl⟩
