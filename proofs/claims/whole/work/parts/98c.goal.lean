/-! THE LAW: the two constructors, the loop. -/
set_option maxRecDepth 100000 in
theorem mm_goal : mm_Goal := by
  intro L xs hL
  obtain ⟨h1, h2, e1, e2, e3, hi⟩ := start
  have T1 : mm_T none 900 158 (mm_ent 158 [.ref 1]) (mm_zh mm_h0) (fun v h => v = none ∧ h = h1) := ⟨30000, none, h1, e1, rfl, rfl⟩
  have T2 : mm_T none 900 206 (mm_ent 206 [.ref 62]) (mm_zh h1) (fun v h => v = none ∧ h = h2) := ⟨30000, none, h2, e3, rfl, rfl⟩
  have hT : mm_T (some (L, xs)) 1000 350 (mm_ent 350 [.retAddr 0]) mm_h0 (fun v h => v = some (.int 1) ∧ h.1 ≤ 107) := by
    refine mm_T.seg (f' := (4, [some (.retAddr 0), none, none, none], [.ref 1, .ref 1])) (h' := mm_zh mm_h0) 2 rfl ?_
    refine mm_T.call (d := 999) (t := 158) (as := [.ref 1]) (f' := (7, [some (.retAddr 0), none, none, none], [.ref 1])) rfl (T1.deep (by decide)) (fun v h hq => ?_)
    obtain ⟨rfl, rfl⟩ := hq
    obtain ⟨q, I, J, R⟩ := h
    obtain rfl : q = 62 := e2
    refine mm_T.seg (f' := (12, [some (.retAddr 0), some (.ref 1), none, none], [.ref 62, .ref 62])) (h' := mm_zh (62, I, J, R)) 3 rfl ?_
    refine mm_T.call (d := 999) (t := 206) (as := [.ref 62]) (f' := (15, [some (.retAddr 0), some (.ref 1), none, none], [.ref 62])) rfl (T2.deep (by decide)) (fun v h hq => ?_)
    obtain ⟨rfl, rfl⟩ := hq
    refine mm_T.seg (f' := (18, [some (.retAddr 0), some (.ref 1), some (.ref 62), some (.int (iN (6 * ((0 : Nat) : Int))))], [])) (h' := h) 3 rfl ?_
    exact law_loop L xs hL L 0 h (by omega) (by omega) hi
  obtain ⟨n, r, h', e, rfl, hl⟩ := hT
  exact ⟨n, h', e, hl⟩
