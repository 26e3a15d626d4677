/-! THE LAW'S LOOP (written by gen98.py). -/
theorem okI_of {L t : Nat} (hL : L ≤ 3072) (h : 6 * t + 6 ≤ L) : okI L (iN (6 * (t : Int))) := by
  have g : ∀ j : Int, 0 ≤ j → j < 6 → ¬ (iN (6 * (t : Int) + j) < 0 ∨ L ≤ (iN (6 * (t : Int) + j)).toNatClampNeg) := by
    intro j j1 j2
    show ¬ (iN _ < iN 0 ∨ _)
    rw [iN_lt (by omega) (by omega) (by omega) (by omega), iN_tn (by omega) (by omega)]; omega
  have a : ∀ j : Int, iN (6 * (t : Int)) + iN j = iN (6 * (t : Int) + j) := fun j => iN_add _ j
  refine ⟨?_, ?_, ?_, ?_, ?_, ?_⟩
  · have := g 0 (by omega) (by omega); rw [Int.add_zero] at this; exact this
  · have := g 1 (by omega) (by omega); rw [← a 1] at this; exact this
  · have := g 2 (by omega) (by omega); rw [← a 2] at this; exact this
  · have := g 3 (by omega) (by omega); rw [← a 3] at this; exact this
  · have := g 4 (by omega) (by omega); rw [← a 4] at this; exact this
  · have := g 5 (by omega) (by omega); rw [← a 5] at this; exact this
theorem L_all {L : Nat} {xs : Nat → Int32} {i : Int32} {t : Int} {I : (Nat → Nat → Int32)} {J : mJ} {R : Nat → Nat → Nat} {Q : Option Value → mm_H → Prop} (g : okI L i) (ht : 0 ≤ t ∧ t < 600) (hi : INV t (107, I, J, R)) (k : ∀ h2, INV (t + 1) h2 → mm_T (some (L, xs)) 1000 350 (1427, [some (.retAddr 0), some (.ref 1), some (.ref 62), some (.int i)], []) h2 Q) (y : Int32) : mm_T (some (L, xs)) 1000 350 (33, [some (.retAddr 0), some (.ref 1), some (.ref 62), some (.int i)], [.int y]) (107, I, J, R) Q := by
  by_cases h0 : y = 0
  · refine mm_T.step (f' := (220, [some (.retAddr 0), some (.ref 1), some (.ref 62), some (.int i)], [])) (h' := (107, I, J, R)) (by rw [h0]; rfl) ?_
    exact L_feed g ht hi k
  by_cases h1 : y = 1
  · refine mm_T.step (f' := (283, [some (.retAddr 0), some (.ref 1), some (.ref 62), some (.int i)], [])) (h' := (107, I, J, R)) (by rw [h1]; rfl) ?_
    exact L_end g ht hi k
  by_cases h2 : y = 2
  · refine mm_T.step (f' := (306, [some (.retAddr 0), some (.ref 1), some (.ref 62), some (.int i)], [])) (h' := (107, I, J, R)) (by rw [h2]; rfl) ?_
    exact L_river g ht hi k
  by_cases h3 : y = 3
  · refine mm_T.step (f' := (319, [some (.retAddr 0), some (.ref 1), some (.ref 62), some (.int i)], [])) (h' := (107, I, J, R)) (by rw [h3]; rfl) ?_
    exact L_fault g ht hi k
  by_cases h4 : y = 4
  · refine mm_T.step (f' := (342, [some (.retAddr 0), some (.ref 1), some (.ref 62), some (.int i)], [])) (h' := (107, I, J, R)) (by rw [h4]; rfl) ?_
    exact L_board g ht hi k
  by_cases h5 : y = 5
  · refine mm_T.step (f' := (375, [some (.retAddr 0), some (.ref 1), some (.ref 62), some (.int i)], [])) (h' := (107, I, J, R)) (by rw [h5]; rfl) ?_
    exact L_load g ht hi k
  by_cases h6 : y = 6
  · refine mm_T.step (f' := (408, [some (.retAddr 0), some (.ref 1), some (.ref 62), some (.int i)], [])) (h' := (107, I, J, R)) (by rw [h6]; rfl) ?_
    exact L_spot g ht hi k
  by_cases h7 : y = 7
  · refine mm_T.step (f' := (451, [some (.retAddr 0), some (.ref 1), some (.ref 62), some (.int i)], [])) (h' := (107, I, J, R)) (by rw [h7]; rfl) ?_
    exact L_hotter g ht hi k
  by_cases h8 : y = 8
  · refine mm_T.step (f' := (474, [some (.retAddr 0), some (.ref 1), some (.ref 62), some (.int i)], [])) (h' := (107, I, J, R)) (by rw [h8]; rfl) ?_
    exact L_stroke g ht hi k
  by_cases h9 : y = 9
  · refine mm_T.step (f' := (533, [some (.retAddr 0), some (.ref 1), some (.ref 62), some (.int i)], [])) (h' := (107, I, J, R)) (by rw [h9]; rfl) ?_
    exact L_stow g ht hi k
  by_cases h10 : y = 10
  · refine mm_T.step (f' := (566, [some (.retAddr 0), some (.ref 1), some (.ref 62), some (.int i)], [])) (h' := (107, I, J, R)) (by rw [h10]; rfl) ?_
    exact L_take g ht hi k
  by_cases h11 : y = 11
  · refine mm_T.step (f' := (589, [some (.retAddr 0), some (.ref 1), some (.ref 62), some (.int i)], [])) (h' := (107, I, J, R)) (by rw [h11]; rfl) ?_
    exact L_cool g ht hi k
  by_cases h12 : y = 12
  · refine mm_T.step (f' := (622, [some (.retAddr 0), some (.ref 1), some (.ref 62), some (.int i)], [])) (h' := (107, I, J, R)) (by rw [h12]; rfl) ?_
    exact L_undo g ht hi k
  by_cases h13 : y = 13
  · refine mm_T.step (f' := (635, [some (.retAddr 0), some (.ref 1), some (.ref 62), some (.int i)], [])) (h' := (107, I, J, R)) (by rw [h13]; rfl) ?_
    exact L_redo g ht hi k
  by_cases h14 : y = 14
  · refine mm_T.step (f' := (648, [some (.retAddr 0), some (.ref 1), some (.ref 62), some (.int i)], [])) (h' := (107, I, J, R)) (by rw [h14]; rfl) ?_
    exact L_landings g ht hi k
  by_cases h15 : y = 15
  · refine mm_T.step (f' := (671, [some (.retAddr 0), some (.ref 1), some (.ref 62), some (.int i)], [])) (h' := (107, I, J, R)) (by rw [h15]; rfl) ?_
    exact L_drift g ht hi k
  by_cases h16 : y = 16
  · refine mm_T.step (f' := (694, [some (.retAddr 0), some (.ref 1), some (.ref 62), some (.int i)], [])) (h' := (107, I, J, R)) (by rw [h16]; rfl) ?_
    exact L_rows g ht hi k
  by_cases h17 : y = 17
  · refine mm_T.step (f' := (717, [some (.retAddr 0), some (.ref 1), some (.ref 62), some (.int i)], [])) (h' := (107, I, J, R)) (by rw [h17]; rfl) ?_
    exact L_coolest g ht hi k
  by_cases h18 : y = 18
  · refine mm_T.step (f' := (750, [some (.retAddr 0), some (.ref 1), some (.ref 62), some (.int i)], [])) (h' := (107, I, J, R)) (by rw [h18]; rfl) ?_
    exact L_straight g ht hi k
  by_cases h19 : y = 19
  · refine mm_T.step (f' := (783, [some (.retAddr 0), some (.ref 1), some (.ref 62), some (.int i)], [])) (h' := (107, I, J, R)) (by rw [h19]; rfl) ?_
    exact L_widest g ht hi k
  by_cases h20 : y = 20
  · refine mm_T.step (f' := (816, [some (.retAddr 0), some (.ref 1), some (.ref 62), some (.int i)], [])) (h' := (107, I, J, R)) (by rw [h20]; rfl) ?_
    exact L_trips g ht hi k
  by_cases h21 : y = 21
  · refine mm_T.step (f' := (839, [some (.retAddr 0), some (.ref 1), some (.ref 62), some (.int i)], [])) (h' := (107, I, J, R)) (by rw [h21]; rfl) ?_
    exact L_stowing g ht hi k
  by_cases h22 : y = 22
  · refine mm_T.step (f' := (852, [some (.retAddr 0), some (.ref 1), some (.ref 62), some (.int i)], [])) (h' := (107, I, J, R)) (by rw [h22]; rfl) ?_
    exact L_meet g ht hi k
  by_cases h23 : y = 23
  · refine mm_T.step (f' := (885, [some (.retAddr 0), some (.ref 1), some (.ref 62), some (.int i)], [])) (h' := (107, I, J, R)) (by rw [h23]; rfl) ?_
    exact L_mooring g ht hi k
  by_cases h24 : y = 24
  · refine mm_T.step (f' := (908, [some (.retAddr 0), some (.ref 1), some (.ref 62), some (.int i)], [])) (h' := (107, I, J, R)) (by rw [h24]; rfl) ?_
    exact L_guests g ht hi k
  by_cases h25 : y = 25
  · refine mm_T.step (f' := (941, [some (.retAddr 0), some (.ref 1), some (.ref 62), some (.int i)], [])) (h' := (107, I, J, R)) (by rw [h25]; rfl) ?_
    exact L_singe g ht hi k
  by_cases h26 : y = 26
  · refine mm_T.step (f' := (964, [some (.retAddr 0), some (.ref 1), some (.ref 62), some (.int i)], [])) (h' := (107, I, J, R)) (by rw [h26]; rfl) ?_
    exact L_odds g ht hi k
  by_cases h27 : y = 27
  · refine mm_T.step (f' := (1007, [some (.retAddr 0), some (.ref 1), some (.ref 62), some (.int i)], [])) (h' := (107, I, J, R)) (by rw [h27]; rfl) ?_
    exact L_over g ht hi k
  by_cases h28 : y = 28
  · refine mm_T.step (f' := (1020, [some (.retAddr 0), some (.ref 1), some (.ref 62), some (.int i)], [])) (h' := (107, I, J, R)) (by rw [h28]; rfl) ?_
    exact L_left g ht hi k
  by_cases h29 : y = 29
  · refine mm_T.step (f' := (1033, [some (.retAddr 0), some (.ref 1), some (.ref 62), some (.int i)], [])) (h' := (107, I, J, R)) (by rw [h29]; rfl) ?_
    exact L_pulled g ht hi k
  by_cases h30 : y = 30
  · refine mm_T.step (f' := (1046, [some (.retAddr 0), some (.ref 1), some (.ref 62), some (.int i)], [])) (h' := (107, I, J, R)) (by rw [h30]; rfl) ?_
    exact L_hottest g ht hi k
  by_cases h31 : y = 31
  · refine mm_T.step (f' := (1059, [some (.retAddr 0), some (.ref 1), some (.ref 62), some (.int i)], [])) (h' := (107, I, J, R)) (by rw [h31]; rfl) ?_
    exact L_law g ht hi k
  by_cases h32 : y = 32
  · refine mm_T.step (f' := (1082, [some (.retAddr 0), some (.ref 1), some (.ref 62), some (.int i)], [])) (h' := (107, I, J, R)) (by rw [h32]; rfl) ?_
    exact L_lies g ht hi k
  by_cases h33 : y = 33
  · refine mm_T.step (f' := (1105, [some (.retAddr 0), some (.ref 1), some (.ref 62), some (.int i)], [])) (h' := (107, I, J, R)) (by rw [h33]; rfl) ?_
    exact L_passed g ht hi k
  by_cases h34 : y = 34
  · refine mm_T.step (f' := (1164, [some (.retAddr 0), some (.ref 1), some (.ref 62), some (.int i)], [])) (h' := (107, I, J, R)) (by rw [h34]; rfl) ?_
    exact L_felt g ht hi k
  by_cases h35 : y = 35
  · refine mm_T.step (f' := (1223, [some (.retAddr 0), some (.ref 1), some (.ref 62), some (.int i)], [])) (h' := (107, I, J, R)) (by rw [h35]; rfl) ?_
    exact L_untell g ht hi k
  by_cases h36 : y = 36
  · refine mm_T.step (f' := (1246, [some (.retAddr 0), some (.ref 1), some (.ref 62), some (.int i)], [])) (h' := (107, I, J, R)) (by rw [h36]; rfl) ?_
    exact L_later g ht hi k
  by_cases h37 : y = 37
  · refine mm_T.step (f' := (1269, [some (.retAddr 0), some (.ref 1), some (.ref 62), some (.int i)], [])) (h' := (107, I, J, R)) (by rw [h37]; rfl) ?_
    exact L_fits g ht hi k
  by_cases h38 : y = 38
  · refine mm_T.step (f' := (1292, [some (.retAddr 0), some (.ref 1), some (.ref 62), some (.int i)], [])) (h' := (107, I, J, R)) (by rw [h38]; rfl) ?_
    exact L_sure g ht hi k
  by_cases h39 : y = 39
  · refine mm_T.step (f' := (1325, [some (.retAddr 0), some (.ref 1), some (.ref 62), some (.int i)], [])) (h' := (107, I, J, R)) (by rw [h39]; rfl) ?_
    exact L_ask g ht hi k
  by_cases h40 : y = 40
  · refine mm_T.step (f' := (1358, [some (.retAddr 0), some (.ref 1), some (.ref 62), some (.int i)], [])) (h' := (107, I, J, R)) (by rw [h40]; rfl) ?_
    exact L_image g ht hi k
  by_cases h41 : y = 41
  · refine mm_T.step (f' := (1381, [some (.retAddr 0), some (.ref 1), some (.ref 62), some (.int i)], [])) (h' := (107, I, J, R)) (by rw [h41]; rfl) ?_
    exact L_back g ht hi k
  by_cases h42 : y = 42
  · refine mm_T.step (f' := (1404, [some (.retAddr 0), some (.ref 1), some (.ref 62), some (.int i)], [])) (h' := (107, I, J, R)) (by rw [h42]; rfl) ?_
    exact L_about g ht hi k
  refine mm_T.tabs (lo := 0) (hi := 42) (y := ((1427, [some (.retAddr 0), some (.ref 1), some (.ref 62), some (.int i)], []), (107, I, J, R))) rfl (mm_swo 0 42 y [0, 1, 2, 3, 4, 5, 6, 7, 8, 9, 10, 11, 12, 13, 14, 15, 16, 17, 18, 19, 20, 21, 22, 23, 24, 25, 26, 27, 28, 29, 30, 31, 32, 33, 34, 35, 36, 37, 38, 39, 40, 41, 42] (by decide) (by intro z hz; simp only [List.mem_cons, List.not_mem_nil, or_false] at hz; rcases hz with rfl | rfl | rfl | rfl | rfl | rfl | rfl | rfl | rfl | rfl | rfl | rfl | rfl | rfl | rfl | rfl | rfl | rfl | rfl | rfl | rfl | rfl | rfl | rfl | rfl | rfl | rfl | rfl | rfl | rfl | rfl | rfl | rfl | rfl | rfl | rfl | rfl | rfl | rfl | rfl | rfl | rfl | rfl <;> assumption)) ?_
  exact k _ (INV_mono hi)
set_option maxRecDepth 100000 in
theorem law_loop (L : Nat) (xs : Nat → Int32) (hL : L ≤ 3072) : ∀ (k t : Nat) (h : mm_H), L - 6 * t ≤ k → t ≤ 512 → INV (t : Int) h → mm_T (some (L, xs)) 1000 350 (18, [some (.retAddr 0), some (.ref 1), some (.ref 62), some (.int (iN (6 * (t : Int))))], []) h (fun v h2 => v = some (.int 1) ∧ h2.1 ≤ 107) := by
  intro k
  induction k using Nat.strongRecOn with
  | ind k ih =>
    intro t h hk ht hi
    obtain ⟨I, J, R, rfl⟩ := INV_h hi
    have eL : (Int32.ofNat L - 6 : Int32) = iN ((L : Int) - 6) := by
      show iN (L : Int) - iN 6 = _
      exact iN_sub _ _
    refine mm_T.seg (f' := (24, [some (.retAddr 0), some (.ref 1), some (.ref 62), some (.int (iN (6 * (t : Int))))], [.int (Int32.ofNat L - 6), .int (iN (6 * (t : Int)))])) (h' := (107, I, J, R)) 5 rfl ?_
    refine mm_T.br (c := (Int32.ofNat L - 6) < iN (6 * (t : Int))) (a := ((1433, [some (.retAddr 0), some (.ref 1), some (.ref 62), some (.int (iN (6 * (t : Int))))], []), (107, I, J, R))) (b := ((27, [some (.retAddr 0), some (.ref 1), some (.ref 62), some (.int (iN (6 * (t : Int))))], []), (107, I, J, R))) rfl (fun h1 => ?_) (fun h1 => ?_)
    · refine mm_T.seg (f' := (1434, [some (.retAddr 0), some (.ref 1), some (.ref 62), some (.int (iN (6 * (t : Int))))], [.int 1])) (h' := (107, I, J, R)) 1 rfl ?_
      exact mm_T.ret rfl ⟨rfl, Nat.le_refl _⟩
    · rw [eL, iN_lt (by omega) (by omega) (by omega) (by omega)] at h1
      have hin : 6 * t + 6 ≤ L := by omega
      have g := okI_of hL hin
      refine mm_T.seg (f' := (29, [some (.retAddr 0), some (.ref 1), some (.ref 62), some (.int (iN (6 * (t : Int))))], [.int (iN (6 * (t : Int))), .retAddr 0])) (h' := (107, I, J, R)) 2 rfl ?_
      refine mm_T.guard (y := ((30, [some (.retAddr 0), some (.ref 1), some (.ref 62), some (.int (iN (6 * (t : Int))))], [.int (lgx xs (iN (6 * (t : Int))))]), (107, I, J, R))) rfl g.1 ?_
      refine mm_T.seg (f' := (33, [some (.retAddr 0), some (.ref 1), some (.ref 62), some (.int (iN (6 * (t : Int))))], [.int (lgx xs (iN (6 * (t : Int))) &&& 63)])) (h' := (107, I, J, R)) 2 rfl ?_
      refine L_all g (by omega) hi (fun h2 hI => ?_) _
      obtain ⟨I2, J2, R2, rfl⟩ := INV_h hI
      have e6 : (iN (6 * (t : Int)) + 6 : Int32) = iN (6 * ((t + 1 : Nat) : Int)) := by
        show iN _ + iN 6 = _
        rw [iN_add, show (6 * (t : Int) + 6) = 6 * ((t + 1 : Nat) : Int) from by omega]
      generalize iN (6 * (t : Int)) = i at e6 ⊢
      refine mm_T.seg (f' := (18, [some (.retAddr 0), some (.ref 1), some (.ref 62), some (.int (i + 6))], [])) (h' := (107, I2, J2, R2)) 2 rfl ?_
      rw [e6]
      exact ih (L - 6 * (t + 1)) (by omega) (t + 1) _ (Nat.le_refl _) (by omega) hI
