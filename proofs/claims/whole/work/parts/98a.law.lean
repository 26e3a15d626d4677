/-! THE LAW'S WALK: each case, the loop (written by gen98.py). -/
def lgx (xs : Nat → Int32) (i : Int32) : Int32 := xs i.toNatClampNeg
def okI (L : Nat) (i : Int32) : Prop := (¬ (i < 0 ∨ L ≤ i.toNatClampNeg)) ∧ (¬ (i + 1 < 0 ∨ L ≤ (i + 1).toNatClampNeg)) ∧ (¬ (i + 2 < 0 ∨ L ≤ (i + 2).toNatClampNeg)) ∧ (¬ (i + 3 < 0 ∨ L ≤ (i + 3).toNatClampNeg)) ∧ (¬ (i + 4 < 0 ∨ L ≤ (i + 4).toNatClampNeg)) ∧ (¬ (i + 5 < 0 ∨ L ≤ (i + 5).toNatClampNeg))
theorem INV_h {t : Int} {h : mm_H} (hi : INV t h) : ∃ I J R, h = (107, I, J, R) := by
  obtain ⟨V, S, Ls, a, u, hb, Bs, Wt, N, T, B, m, l, fk, fp, I, J, rv, sp, rr, w, nw, rfl, -⟩ := hi
  exact ⟨I, J, _, rfl⟩
theorem INV_mono {t : Int} {h : mm_H} (hi : INV t h) : INV (t + 1) h := by
  obtain ⟨V, S, Ls, a, u, hb, Bs, Wt, N, T, B, m, l, fk, fp, I, J, rv, sp, rr, w, nw, rfl, hrs, hrr, hww, hcw, hP, hC, hR⟩ := hi
  exact ⟨V, S, Ls, a, u, hb, Bs, Wt, N, T, B, m, l, fk, fp, I, J, rv, sp, rr, w, nw, rfl, hrs, hrr, hww, hcw, PS_mono hP (by omega) hP.2.2.2.2.2, hC, hR⟩
section LAWC
variable {L : Nat} {xs : Nat → Int32} {i : Int32} {t : Int} {h : mm_H} {Q : Option Value → mm_H → Prop}
set_option maxRecDepth 100000 in
set_option maxHeartbeats 4000000 in
theorem L_feed (g : okI L i) (ht : 0 ≤ t ∧ t < 600) (hi : INV t h) (k : ∀ h2, INV (t + 1) h2 → mm_T (some (L, xs)) 1000 350 (1427, [some (.retAddr 0), some (.ref 1), some (.ref 62), some (.int i)], []) h2 Q) : mm_T (some (L, xs)) 1000 350 (220, [some (.retAddr 0), some (.ref 1), some (.ref 62), some (.int i)], []) h Q := by
  obtain ⟨I, J, R, rfl⟩ := INV_h hi
  obtain ⟨x, h1, h2, T1, T2, e1, hI⟩ := C_feed ht hi (lgx xs (i + 1)) (lgx xs (i + 2)) (lgx xs (i + 3)) (lgx xs (i + 4)) (lgx xs (i + 5))
  obtain ⟨q1, I1, J1, R1⟩ := h1
  obtain rfl : q1 = 107 := e1
  refine mm_T.seg (f' := (225, [some (.retAddr 0), some (.ref 1), some (.ref 62), some (.int i)], [.int (i + 1), .retAddr 0, .ref 1])) (h' := (107, I, J, R)) 5 rfl ?_
  refine mm_T.guard (y := ((226, [some (.retAddr 0), some (.ref 1), some (.ref 62), some (.int i)], [.int (lgx xs (i + 1)), .ref 1]), (107, I, J, R))) rfl g.2.1 ?_
  refine mm_T.seg (f' := (230, [some (.retAddr 0), some (.ref 1), some (.ref 62), some (.int i)], [.int (i + 2), .retAddr 0, .int (lgx xs (i + 1)), .ref 1])) (h' := (107, I, J, R)) 4 rfl ?_
  refine mm_T.guard (y := ((231, [some (.retAddr 0), some (.ref 1), some (.ref 62), some (.int i)], [.int (lgx xs (i + 2)), .int (lgx xs (i + 1)), .ref 1]), (107, I, J, R))) rfl g.2.2.1 ?_
  refine mm_T.seg (f' := (235, [some (.retAddr 0), some (.ref 1), some (.ref 62), some (.int i)], [.int (i + 3), .retAddr 0, .int (lgx xs (i + 2)), .int (lgx xs (i + 1)), .ref 1])) (h' := (107, I, J, R)) 4 rfl ?_
  refine mm_T.guard (y := ((236, [some (.retAddr 0), some (.ref 1), some (.ref 62), some (.int i)], [.int (lgx xs (i + 3)), .int (lgx xs (i + 2)), .int (lgx xs (i + 1)), .ref 1]), (107, I, J, R))) rfl g.2.2.2.1 ?_
  refine mm_T.seg (f' := (240, [some (.retAddr 0), some (.ref 1), some (.ref 62), some (.int i)], [.int (i + 4), .retAddr 0, .int (lgx xs (i + 3)), .int (lgx xs (i + 2)), .int (lgx xs (i + 1)), .ref 1])) (h' := (107, I, J, R)) 4 rfl ?_
  refine mm_T.guard (y := ((241, [some (.retAddr 0), some (.ref 1), some (.ref 62), some (.int i)], [.int (lgx xs (i + 4)), .int (lgx xs (i + 3)), .int (lgx xs (i + 2)), .int (lgx xs (i + 1)), .ref 1]), (107, I, J, R))) rfl g.2.2.2.2.1 ?_
  refine mm_T.seg (f' := (245, [some (.retAddr 0), some (.ref 1), some (.ref 62), some (.int i)], [.int (i + 5), .retAddr 0, .int (lgx xs (i + 4)), .int (lgx xs (i + 3)), .int (lgx xs (i + 2)), .int (lgx xs (i + 1)), .ref 1])) (h' := (107, I, J, R)) 4 rfl ?_
  refine mm_T.guard (y := ((246, [some (.retAddr 0), some (.ref 1), some (.ref 62), some (.int i)], [.int (lgx xs (i + 5)), .int (lgx xs (i + 4)), .int (lgx xs (i + 3)), .int (lgx xs (i + 2)), .int (lgx xs (i + 1)), .ref 1]), (107, I, J, R))) rfl g.2.2.2.2.2 ?_
  refine mm_T.call (d := 999) (t := 159) (as := [.ref 1, .int (lgx xs (i + 1)), .int (lgx xs (i + 2)), .int (lgx xs (i + 3)), .int (lgx xs (i + 4)), .int (lgx xs (i + 5))]) (f' := (249, [some (.retAddr 0), some (.ref 1), some (.ref 62), some (.int i)], [])) rfl (T1.deep (by decide)) (fun v h hq => ?_)
  obtain ⟨rfl, rfl⟩ := hq
  refine mm_T.seg (f' := (254, [some (.retAddr 0), some (.ref 1), some (.ref 62), some (.int i)], [.int (i + 1), .retAddr 0, .ref 62, .int x])) (h' := (107, I1, J1, R1)) 5 rfl ?_
  refine mm_T.guard (y := ((255, [some (.retAddr 0), some (.ref 1), some (.ref 62), some (.int i)], [.int (lgx xs (i + 1)), .ref 62, .int x]), (107, I1, J1, R1))) rfl g.2.1 ?_
  refine mm_T.seg (f' := (259, [some (.retAddr 0), some (.ref 1), some (.ref 62), some (.int i)], [.int (i + 2), .retAddr 0, .int (lgx xs (i + 1)), .ref 62, .int x])) (h' := (107, I1, J1, R1)) 4 rfl ?_
  refine mm_T.guard (y := ((260, [some (.retAddr 0), some (.ref 1), some (.ref 62), some (.int i)], [.int (lgx xs (i + 2)), .int (lgx xs (i + 1)), .ref 62, .int x]), (107, I1, J1, R1))) rfl g.2.2.1 ?_
  refine mm_T.seg (f' := (264, [some (.retAddr 0), some (.ref 1), some (.ref 62), some (.int i)], [.int (i + 3), .retAddr 0, .int (lgx xs (i + 2)), .int (lgx xs (i + 1)), .ref 62, .int x])) (h' := (107, I1, J1, R1)) 4 rfl ?_
  refine mm_T.guard (y := ((265, [some (.retAddr 0), some (.ref 1), some (.ref 62), some (.int i)], [.int (lgx xs (i + 3)), .int (lgx xs (i + 2)), .int (lgx xs (i + 1)), .ref 62, .int x]), (107, I1, J1, R1))) rfl g.2.2.2.1 ?_
  refine mm_T.seg (f' := (269, [some (.retAddr 0), some (.ref 1), some (.ref 62), some (.int i)], [.int (i + 4), .retAddr 0, .int (lgx xs (i + 3)), .int (lgx xs (i + 2)), .int (lgx xs (i + 1)), .ref 62, .int x])) (h' := (107, I1, J1, R1)) 4 rfl ?_
  refine mm_T.guard (y := ((270, [some (.retAddr 0), some (.ref 1), some (.ref 62), some (.int i)], [.int (lgx xs (i + 4)), .int (lgx xs (i + 3)), .int (lgx xs (i + 2)), .int (lgx xs (i + 1)), .ref 62, .int x]), (107, I1, J1, R1))) rfl g.2.2.2.2.1 ?_
  refine mm_T.seg (f' := (274, [some (.retAddr 0), some (.ref 1), some (.ref 62), some (.int i)], [.int (i + 5), .retAddr 0, .int (lgx xs (i + 4)), .int (lgx xs (i + 3)), .int (lgx xs (i + 2)), .int (lgx xs (i + 1)), .ref 62, .int x])) (h' := (107, I1, J1, R1)) 4 rfl ?_
  refine mm_T.guard (y := ((275, [some (.retAddr 0), some (.ref 1), some (.ref 62), some (.int i)], [.int (lgx xs (i + 5)), .int (lgx xs (i + 4)), .int (lgx xs (i + 3)), .int (lgx xs (i + 2)), .int (lgx xs (i + 1)), .ref 62, .int x]), (107, I1, J1, R1))) rfl g.2.2.2.2.2 ?_
  refine mm_T.call (d := 999) (t := 207) (as := [.ref 62, .int (lgx xs (i + 1)), .int (lgx xs (i + 2)), .int (lgx xs (i + 3)), .int (lgx xs (i + 4)), .int (lgx xs (i + 5))]) (f' := (278, [some (.retAddr 0), some (.ref 1), some (.ref 62), some (.int i)], [.int x])) rfl (T2.deep (by decide)) (fun v h hq => ?_)
  obtain ⟨rfl, rfl⟩ := hq
  exact mm_T.br (c := x = x) (a := ((1427, [some (.retAddr 0), some (.ref 1), some (.ref 62), some (.int i)], []), h)) (b := ((281, [some (.retAddr 0), some (.ref 1), some (.ref 62), some (.int i)], []), h)) rfl (fun _ => k _ hI) (fun hn => absurd rfl hn)
set_option maxRecDepth 100000 in
set_option maxHeartbeats 4000000 in
theorem L_end (g : okI L i) (ht : 0 ≤ t ∧ t < 600) (hi : INV t h) (k : ∀ h2, INV (t + 1) h2 → mm_T (some (L, xs)) 1000 350 (1427, [some (.retAddr 0), some (.ref 1), some (.ref 62), some (.int i)], []) h2 Q) : mm_T (some (L, xs)) 1000 350 (283, [some (.retAddr 0), some (.ref 1), some (.ref 62), some (.int i)], []) h Q := by
  obtain ⟨I, J, R, rfl⟩ := INV_h hi
  obtain ⟨x, h1, h2, T1, T2, e1, hI⟩ := C_end ht hi (lgx xs (i + 1))
  obtain ⟨q1, I1, J1, R1⟩ := h1
  obtain rfl : q1 = 107 := e1
  refine mm_T.seg (f' := (288, [some (.retAddr 0), some (.ref 1), some (.ref 62), some (.int i)], [.int (i + 1), .retAddr 0, .ref 1])) (h' := (107, I, J, R)) 5 rfl ?_
  refine mm_T.guard (y := ((289, [some (.retAddr 0), some (.ref 1), some (.ref 62), some (.int i)], [.int (lgx xs (i + 1)), .ref 1]), (107, I, J, R))) rfl g.2.1 ?_
  refine mm_T.call (d := 999) (t := 161) (as := [.ref 1, .int (lgx xs (i + 1))]) (f' := (292, [some (.retAddr 0), some (.ref 1), some (.ref 62), some (.int i)], [])) rfl (T1.deep (by decide)) (fun v h hq => ?_)
  obtain ⟨rfl, rfl⟩ := hq
  refine mm_T.seg (f' := (297, [some (.retAddr 0), some (.ref 1), some (.ref 62), some (.int i)], [.int (i + 1), .retAddr 0, .ref 62, .int x])) (h' := (107, I1, J1, R1)) 5 rfl ?_
  refine mm_T.guard (y := ((298, [some (.retAddr 0), some (.ref 1), some (.ref 62), some (.int i)], [.int (lgx xs (i + 1)), .ref 62, .int x]), (107, I1, J1, R1))) rfl g.2.1 ?_
  refine mm_T.call (d := 999) (t := 209) (as := [.ref 62, .int (lgx xs (i + 1))]) (f' := (301, [some (.retAddr 0), some (.ref 1), some (.ref 62), some (.int i)], [.int x])) rfl (T2.deep (by decide)) (fun v h hq => ?_)
  obtain ⟨rfl, rfl⟩ := hq
  exact mm_T.br (c := x = x) (a := ((1427, [some (.retAddr 0), some (.ref 1), some (.ref 62), some (.int i)], []), h)) (b := ((304, [some (.retAddr 0), some (.ref 1), some (.ref 62), some (.int i)], []), h)) rfl (fun _ => k _ hI) (fun hn => absurd rfl hn)
set_option maxRecDepth 100000 in
set_option maxHeartbeats 4000000 in
theorem L_river (g : okI L i) (ht : 0 ≤ t ∧ t < 600) (hi : INV t h) (k : ∀ h2, INV (t + 1) h2 → mm_T (some (L, xs)) 1000 350 (1427, [some (.retAddr 0), some (.ref 1), some (.ref 62), some (.int i)], []) h2 Q) : mm_T (some (L, xs)) 1000 350 (306, [some (.retAddr 0), some (.ref 1), some (.ref 62), some (.int i)], []) h Q := by
  obtain ⟨I, J, R, rfl⟩ := INV_h hi
  obtain ⟨x, h1, h2, T1, T2, e1, hI⟩ := C_river ht hi 
  obtain ⟨q1, I1, J1, R1⟩ := h1
  obtain rfl : q1 = 107 := e1
  refine mm_T.seg (f' := (307, [some (.retAddr 0), some (.ref 1), some (.ref 62), some (.int i)], [.ref 1])) (h' := (107, I, J, R)) 1 rfl ?_
  refine mm_T.call (d := 999) (t := 162) (as := [.ref 1]) (f' := (310, [some (.retAddr 0), some (.ref 1), some (.ref 62), some (.int i)], [])) rfl (T1.deep (by decide)) (fun v h hq => ?_)
  obtain ⟨rfl, rfl⟩ := hq
  refine mm_T.seg (f' := (311, [some (.retAddr 0), some (.ref 1), some (.ref 62), some (.int i)], [.ref 62, .int x])) (h' := (107, I1, J1, R1)) 1 rfl ?_
  refine mm_T.call (d := 999) (t := 250) (as := [.ref 62]) (f' := (314, [some (.retAddr 0), some (.ref 1), some (.ref 62), some (.int i)], [.int x])) rfl (T2.deep (by decide)) (fun v h hq => ?_)
  obtain ⟨rfl, rfl⟩ := hq
  exact mm_T.br (c := x = x) (a := ((1427, [some (.retAddr 0), some (.ref 1), some (.ref 62), some (.int i)], []), h)) (b := ((317, [some (.retAddr 0), some (.ref 1), some (.ref 62), some (.int i)], []), h)) rfl (fun _ => k _ hI) (fun hn => absurd rfl hn)
set_option maxRecDepth 100000 in
set_option maxHeartbeats 4000000 in
theorem L_fault (g : okI L i) (ht : 0 ≤ t ∧ t < 600) (hi : INV t h) (k : ∀ h2, INV (t + 1) h2 → mm_T (some (L, xs)) 1000 350 (1427, [some (.retAddr 0), some (.ref 1), some (.ref 62), some (.int i)], []) h2 Q) : mm_T (some (L, xs)) 1000 350 (319, [some (.retAddr 0), some (.ref 1), some (.ref 62), some (.int i)], []) h Q := by
  obtain ⟨I, J, R, rfl⟩ := INV_h hi
  obtain ⟨x, h1, h2, T1, T2, e1, hI⟩ := C_fault ht hi (lgx xs (i + 1))
  obtain ⟨q1, I1, J1, R1⟩ := h1
  obtain rfl : q1 = 107 := e1
  refine mm_T.seg (f' := (324, [some (.retAddr 0), some (.ref 1), some (.ref 62), some (.int i)], [.int (i + 1), .retAddr 0, .ref 1])) (h' := (107, I, J, R)) 5 rfl ?_
  refine mm_T.guard (y := ((325, [some (.retAddr 0), some (.ref 1), some (.ref 62), some (.int i)], [.int (lgx xs (i + 1)), .ref 1]), (107, I, J, R))) rfl g.2.1 ?_
  refine mm_T.call (d := 999) (t := 163) (as := [.ref 1, .int (lgx xs (i + 1))]) (f' := (328, [some (.retAddr 0), some (.ref 1), some (.ref 62), some (.int i)], [])) rfl (T1.deep (by decide)) (fun v h hq => ?_)
  obtain ⟨rfl, rfl⟩ := hq
  refine mm_T.seg (f' := (333, [some (.retAddr 0), some (.ref 1), some (.ref 62), some (.int i)], [.int (i + 1), .retAddr 0, .ref 62, .int x])) (h' := (107, I1, J1, R1)) 5 rfl ?_
  refine mm_T.guard (y := ((334, [some (.retAddr 0), some (.ref 1), some (.ref 62), some (.int i)], [.int (lgx xs (i + 1)), .ref 62, .int x]), (107, I1, J1, R1))) rfl g.2.1 ?_
  refine mm_T.call (d := 999) (t := 251) (as := [.ref 62, .int (lgx xs (i + 1))]) (f' := (337, [some (.retAddr 0), some (.ref 1), some (.ref 62), some (.int i)], [.int x])) rfl (T2.deep (by decide)) (fun v h hq => ?_)
  obtain ⟨rfl, rfl⟩ := hq
  exact mm_T.br (c := x = x) (a := ((1427, [some (.retAddr 0), some (.ref 1), some (.ref 62), some (.int i)], []), h)) (b := ((340, [some (.retAddr 0), some (.ref 1), some (.ref 62), some (.int i)], []), h)) rfl (fun _ => k _ hI) (fun hn => absurd rfl hn)
set_option maxRecDepth 100000 in
set_option maxHeartbeats 4000000 in
theorem L_board (g : okI L i) (ht : 0 ≤ t ∧ t < 600) (hi : INV t h) (k : ∀ h2, INV (t + 1) h2 → mm_T (some (L, xs)) 1000 350 (1427, [some (.retAddr 0), some (.ref 1), some (.ref 62), some (.int i)], []) h2 Q) : mm_T (some (L, xs)) 1000 350 (342, [some (.retAddr 0), some (.ref 1), some (.ref 62), some (.int i)], []) h Q := by
  obtain ⟨I, J, R, rfl⟩ := INV_h hi
  obtain ⟨x, h1, h2, T1, T2, e1, hI⟩ := C_board ht hi (lgx xs (i + 1)) (lgx xs (i + 2))
  obtain ⟨q1, I1, J1, R1⟩ := h1
  obtain rfl : q1 = 107 := e1
  refine mm_T.seg (f' := (347, [some (.retAddr 0), some (.ref 1), some (.ref 62), some (.int i)], [.int (i + 1), .retAddr 0, .ref 1])) (h' := (107, I, J, R)) 5 rfl ?_
  refine mm_T.guard (y := ((348, [some (.retAddr 0), some (.ref 1), some (.ref 62), some (.int i)], [.int (lgx xs (i + 1)), .ref 1]), (107, I, J, R))) rfl g.2.1 ?_
  refine mm_T.seg (f' := (352, [some (.retAddr 0), some (.ref 1), some (.ref 62), some (.int i)], [.int (i + 2), .retAddr 0, .int (lgx xs (i + 1)), .ref 1])) (h' := (107, I, J, R)) 4 rfl ?_
  refine mm_T.guard (y := ((353, [some (.retAddr 0), some (.ref 1), some (.ref 62), some (.int i)], [.int (lgx xs (i + 2)), .int (lgx xs (i + 1)), .ref 1]), (107, I, J, R))) rfl g.2.2.1 ?_
  refine mm_T.call (d := 999) (t := 164) (as := [.ref 1, .int (lgx xs (i + 1)), .int (lgx xs (i + 2))]) (f' := (356, [some (.retAddr 0), some (.ref 1), some (.ref 62), some (.int i)], [])) rfl (T1.deep (by decide)) (fun v h hq => ?_)
  obtain ⟨rfl, rfl⟩ := hq
  refine mm_T.seg (f' := (361, [some (.retAddr 0), some (.ref 1), some (.ref 62), some (.int i)], [.int (i + 1), .retAddr 0, .ref 62, .int x])) (h' := (107, I1, J1, R1)) 5 rfl ?_
  refine mm_T.guard (y := ((362, [some (.retAddr 0), some (.ref 1), some (.ref 62), some (.int i)], [.int (lgx xs (i + 1)), .ref 62, .int x]), (107, I1, J1, R1))) rfl g.2.1 ?_
  refine mm_T.seg (f' := (366, [some (.retAddr 0), some (.ref 1), some (.ref 62), some (.int i)], [.int (i + 2), .retAddr 0, .int (lgx xs (i + 1)), .ref 62, .int x])) (h' := (107, I1, J1, R1)) 4 rfl ?_
  refine mm_T.guard (y := ((367, [some (.retAddr 0), some (.ref 1), some (.ref 62), some (.int i)], [.int (lgx xs (i + 2)), .int (lgx xs (i + 1)), .ref 62, .int x]), (107, I1, J1, R1))) rfl g.2.2.1 ?_
  refine mm_T.call (d := 999) (t := 263) (as := [.ref 62, .int (lgx xs (i + 1)), .int (lgx xs (i + 2))]) (f' := (370, [some (.retAddr 0), some (.ref 1), some (.ref 62), some (.int i)], [.int x])) rfl (T2.deep (by decide)) (fun v h hq => ?_)
  obtain ⟨rfl, rfl⟩ := hq
  exact mm_T.br (c := x = x) (a := ((1427, [some (.retAddr 0), some (.ref 1), some (.ref 62), some (.int i)], []), h)) (b := ((373, [some (.retAddr 0), some (.ref 1), some (.ref 62), some (.int i)], []), h)) rfl (fun _ => k _ hI) (fun hn => absurd rfl hn)
set_option maxRecDepth 100000 in
set_option maxHeartbeats 4000000 in
theorem L_load (g : okI L i) (ht : 0 ≤ t ∧ t < 600) (hi : INV t h) (k : ∀ h2, INV (t + 1) h2 → mm_T (some (L, xs)) 1000 350 (1427, [some (.retAddr 0), some (.ref 1), some (.ref 62), some (.int i)], []) h2 Q) : mm_T (some (L, xs)) 1000 350 (375, [some (.retAddr 0), some (.ref 1), some (.ref 62), some (.int i)], []) h Q := by
  obtain ⟨I, J, R, rfl⟩ := INV_h hi
  obtain ⟨x, h1, h2, T1, T2, e1, hI⟩ := C_load ht hi (lgx xs (i + 1)) (lgx xs (i + 2))
  obtain ⟨q1, I1, J1, R1⟩ := h1
  obtain rfl : q1 = 107 := e1
  refine mm_T.seg (f' := (380, [some (.retAddr 0), some (.ref 1), some (.ref 62), some (.int i)], [.int (i + 1), .retAddr 0, .ref 1])) (h' := (107, I, J, R)) 5 rfl ?_
  refine mm_T.guard (y := ((381, [some (.retAddr 0), some (.ref 1), some (.ref 62), some (.int i)], [.int (lgx xs (i + 1)), .ref 1]), (107, I, J, R))) rfl g.2.1 ?_
  refine mm_T.seg (f' := (385, [some (.retAddr 0), some (.ref 1), some (.ref 62), some (.int i)], [.int (i + 2), .retAddr 0, .int (lgx xs (i + 1)), .ref 1])) (h' := (107, I, J, R)) 4 rfl ?_
  refine mm_T.guard (y := ((386, [some (.retAddr 0), some (.ref 1), some (.ref 62), some (.int i)], [.int (lgx xs (i + 2)), .int (lgx xs (i + 1)), .ref 1]), (107, I, J, R))) rfl g.2.2.1 ?_
  refine mm_T.call (d := 999) (t := 165) (as := [.ref 1, .int (lgx xs (i + 1)), .int (lgx xs (i + 2))]) (f' := (389, [some (.retAddr 0), some (.ref 1), some (.ref 62), some (.int i)], [])) rfl (T1.deep (by decide)) (fun v h hq => ?_)
  obtain ⟨rfl, rfl⟩ := hq
  refine mm_T.seg (f' := (394, [some (.retAddr 0), some (.ref 1), some (.ref 62), some (.int i)], [.int (i + 1), .retAddr 0, .ref 62, .int x])) (h' := (107, I1, J1, R1)) 5 rfl ?_
  refine mm_T.guard (y := ((395, [some (.retAddr 0), some (.ref 1), some (.ref 62), some (.int i)], [.int (lgx xs (i + 1)), .ref 62, .int x]), (107, I1, J1, R1))) rfl g.2.1 ?_
  refine mm_T.seg (f' := (399, [some (.retAddr 0), some (.ref 1), some (.ref 62), some (.int i)], [.int (i + 2), .retAddr 0, .int (lgx xs (i + 1)), .ref 62, .int x])) (h' := (107, I1, J1, R1)) 4 rfl ?_
  refine mm_T.guard (y := ((400, [some (.retAddr 0), some (.ref 1), some (.ref 62), some (.int i)], [.int (lgx xs (i + 2)), .int (lgx xs (i + 1)), .ref 62, .int x]), (107, I1, J1, R1))) rfl g.2.2.1 ?_
  refine mm_T.call (d := 999) (t := 264) (as := [.ref 62, .int (lgx xs (i + 1)), .int (lgx xs (i + 2))]) (f' := (403, [some (.retAddr 0), some (.ref 1), some (.ref 62), some (.int i)], [.int x])) rfl (T2.deep (by decide)) (fun v h hq => ?_)
  obtain ⟨rfl, rfl⟩ := hq
  exact mm_T.br (c := x = x) (a := ((1427, [some (.retAddr 0), some (.ref 1), some (.ref 62), some (.int i)], []), h)) (b := ((406, [some (.retAddr 0), some (.ref 1), some (.ref 62), some (.int i)], []), h)) rfl (fun _ => k _ hI) (fun hn => absurd rfl hn)
set_option maxRecDepth 100000 in
set_option maxHeartbeats 4000000 in
theorem L_spot (g : okI L i) (ht : 0 ≤ t ∧ t < 600) (hi : INV t h) (k : ∀ h2, INV (t + 1) h2 → mm_T (some (L, xs)) 1000 350 (1427, [some (.retAddr 0), some (.ref 1), some (.ref 62), some (.int i)], []) h2 Q) : mm_T (some (L, xs)) 1000 350 (408, [some (.retAddr 0), some (.ref 1), some (.ref 62), some (.int i)], []) h Q := by
  obtain ⟨I, J, R, rfl⟩ := INV_h hi
  obtain ⟨x, h1, h2, T1, T2, e1, hI⟩ := C_spot ht hi (lgx xs (i + 1)) (lgx xs (i + 2)) (lgx xs (i + 3))
  obtain ⟨q1, I1, J1, R1⟩ := h1
  obtain rfl : q1 = 107 := e1
  refine mm_T.seg (f' := (413, [some (.retAddr 0), some (.ref 1), some (.ref 62), some (.int i)], [.int (i + 1), .retAddr 0, .ref 1])) (h' := (107, I, J, R)) 5 rfl ?_
  refine mm_T.guard (y := ((414, [some (.retAddr 0), some (.ref 1), some (.ref 62), some (.int i)], [.int (lgx xs (i + 1)), .ref 1]), (107, I, J, R))) rfl g.2.1 ?_
  refine mm_T.seg (f' := (418, [some (.retAddr 0), some (.ref 1), some (.ref 62), some (.int i)], [.int (i + 2), .retAddr 0, .int (lgx xs (i + 1)), .ref 1])) (h' := (107, I, J, R)) 4 rfl ?_
  refine mm_T.guard (y := ((419, [some (.retAddr 0), some (.ref 1), some (.ref 62), some (.int i)], [.int (lgx xs (i + 2)), .int (lgx xs (i + 1)), .ref 1]), (107, I, J, R))) rfl g.2.2.1 ?_
  refine mm_T.seg (f' := (423, [some (.retAddr 0), some (.ref 1), some (.ref 62), some (.int i)], [.int (i + 3), .retAddr 0, .int (lgx xs (i + 2)), .int (lgx xs (i + 1)), .ref 1])) (h' := (107, I, J, R)) 4 rfl ?_
  refine mm_T.guard (y := ((424, [some (.retAddr 0), some (.ref 1), some (.ref 62), some (.int i)], [.int (lgx xs (i + 3)), .int (lgx xs (i + 2)), .int (lgx xs (i + 1)), .ref 1]), (107, I, J, R))) rfl g.2.2.2.1 ?_
  refine mm_T.call (d := 999) (t := 166) (as := [.ref 1, .int (lgx xs (i + 1)), .int (lgx xs (i + 2)), .int (lgx xs (i + 3))]) (f' := (427, [some (.retAddr 0), some (.ref 1), some (.ref 62), some (.int i)], [])) rfl (T1.deep (by decide)) (fun v h hq => ?_)
  obtain ⟨rfl, rfl⟩ := hq
  refine mm_T.seg (f' := (432, [some (.retAddr 0), some (.ref 1), some (.ref 62), some (.int i)], [.int (i + 1), .retAddr 0, .ref 62, .int x])) (h' := (107, I1, J1, R1)) 5 rfl ?_
  refine mm_T.guard (y := ((433, [some (.retAddr 0), some (.ref 1), some (.ref 62), some (.int i)], [.int (lgx xs (i + 1)), .ref 62, .int x]), (107, I1, J1, R1))) rfl g.2.1 ?_
  refine mm_T.seg (f' := (437, [some (.retAddr 0), some (.ref 1), some (.ref 62), some (.int i)], [.int (i + 2), .retAddr 0, .int (lgx xs (i + 1)), .ref 62, .int x])) (h' := (107, I1, J1, R1)) 4 rfl ?_
  refine mm_T.guard (y := ((438, [some (.retAddr 0), some (.ref 1), some (.ref 62), some (.int i)], [.int (lgx xs (i + 2)), .int (lgx xs (i + 1)), .ref 62, .int x]), (107, I1, J1, R1))) rfl g.2.2.1 ?_
  refine mm_T.seg (f' := (442, [some (.retAddr 0), some (.ref 1), some (.ref 62), some (.int i)], [.int (i + 3), .retAddr 0, .int (lgx xs (i + 2)), .int (lgx xs (i + 1)), .ref 62, .int x])) (h' := (107, I1, J1, R1)) 4 rfl ?_
  refine mm_T.guard (y := ((443, [some (.retAddr 0), some (.ref 1), some (.ref 62), some (.int i)], [.int (lgx xs (i + 3)), .int (lgx xs (i + 2)), .int (lgx xs (i + 1)), .ref 62, .int x]), (107, I1, J1, R1))) rfl g.2.2.2.1 ?_
  refine mm_T.call (d := 999) (t := 265) (as := [.ref 62, .int (lgx xs (i + 1)), .int (lgx xs (i + 2)), .int (lgx xs (i + 3))]) (f' := (446, [some (.retAddr 0), some (.ref 1), some (.ref 62), some (.int i)], [.int x])) rfl (T2.deep (by decide)) (fun v h hq => ?_)
  obtain ⟨rfl, rfl⟩ := hq
  exact mm_T.br (c := x = x) (a := ((1427, [some (.retAddr 0), some (.ref 1), some (.ref 62), some (.int i)], []), h)) (b := ((449, [some (.retAddr 0), some (.ref 1), some (.ref 62), some (.int i)], []), h)) rfl (fun _ => k _ hI) (fun hn => absurd rfl hn)
set_option maxRecDepth 100000 in
set_option maxHeartbeats 4000000 in
theorem L_hotter (g : okI L i) (ht : 0 ≤ t ∧ t < 600) (hi : INV t h) (k : ∀ h2, INV (t + 1) h2 → mm_T (some (L, xs)) 1000 350 (1427, [some (.retAddr 0), some (.ref 1), some (.ref 62), some (.int i)], []) h2 Q) : mm_T (some (L, xs)) 1000 350 (451, [some (.retAddr 0), some (.ref 1), some (.ref 62), some (.int i)], []) h Q := by
  obtain ⟨I, J, R, rfl⟩ := INV_h hi
  obtain ⟨x, h1, h2, T1, T2, e1, hI⟩ := C_hotter ht hi (lgx xs (i + 1))
  obtain ⟨q1, I1, J1, R1⟩ := h1
  obtain rfl : q1 = 107 := e1
  refine mm_T.seg (f' := (456, [some (.retAddr 0), some (.ref 1), some (.ref 62), some (.int i)], [.int (i + 1), .retAddr 0, .ref 1])) (h' := (107, I, J, R)) 5 rfl ?_
  refine mm_T.guard (y := ((457, [some (.retAddr 0), some (.ref 1), some (.ref 62), some (.int i)], [.int (lgx xs (i + 1)), .ref 1]), (107, I, J, R))) rfl g.2.1 ?_
  refine mm_T.call (d := 999) (t := 167) (as := [.ref 1, .int (lgx xs (i + 1))]) (f' := (460, [some (.retAddr 0), some (.ref 1), some (.ref 62), some (.int i)], [])) rfl (T1.deep (by decide)) (fun v h hq => ?_)
  obtain ⟨rfl, rfl⟩ := hq
  refine mm_T.seg (f' := (465, [some (.retAddr 0), some (.ref 1), some (.ref 62), some (.int i)], [.int (i + 1), .retAddr 0, .ref 62, .int x])) (h' := (107, I1, J1, R1)) 5 rfl ?_
  refine mm_T.guard (y := ((466, [some (.retAddr 0), some (.ref 1), some (.ref 62), some (.int i)], [.int (lgx xs (i + 1)), .ref 62, .int x]), (107, I1, J1, R1))) rfl g.2.1 ?_
  refine mm_T.call (d := 999) (t := 266) (as := [.ref 62, .int (lgx xs (i + 1))]) (f' := (469, [some (.retAddr 0), some (.ref 1), some (.ref 62), some (.int i)], [.int x])) rfl (T2.deep (by decide)) (fun v h hq => ?_)
  obtain ⟨rfl, rfl⟩ := hq
  exact mm_T.br (c := x = x) (a := ((1427, [some (.retAddr 0), some (.ref 1), some (.ref 62), some (.int i)], []), h)) (b := ((472, [some (.retAddr 0), some (.ref 1), some (.ref 62), some (.int i)], []), h)) rfl (fun _ => k _ hI) (fun hn => absurd rfl hn)
set_option maxRecDepth 100000 in
set_option maxHeartbeats 4000000 in
theorem L_stroke (g : okI L i) (ht : 0 ≤ t ∧ t < 600) (hi : INV t h) (k : ∀ h2, INV (t + 1) h2 → mm_T (some (L, xs)) 1000 350 (1427, [some (.retAddr 0), some (.ref 1), some (.ref 62), some (.int i)], []) h2 Q) : mm_T (some (L, xs)) 1000 350 (474, [some (.retAddr 0), some (.ref 1), some (.ref 62), some (.int i)], []) h Q := by
  obtain ⟨I, J, R, rfl⟩ := INV_h hi
  by_cases hx : lgx xs (i + 3) = 0
  · obtain ⟨x, h1, h2, T1, T2, e1, hI⟩ := C_stroke ht hi (lgx xs (i + 1)) (lgx xs (i + 2)) (0)
    obtain ⟨q1, I1, J1, R1⟩ := h1
    obtain rfl : q1 = 107 := e1
    refine mm_T.seg (f' := (479, [some (.retAddr 0), some (.ref 1), some (.ref 62), some (.int i)], [.int (i + 1), .retAddr 0, .ref 1])) (h' := (107, I, J, R)) 5 rfl ?_
    refine mm_T.guard (y := ((480, [some (.retAddr 0), some (.ref 1), some (.ref 62), some (.int i)], [.int (lgx xs (i + 1)), .ref 1]), (107, I, J, R))) rfl g.2.1 ?_
    refine mm_T.seg (f' := (484, [some (.retAddr 0), some (.ref 1), some (.ref 62), some (.int i)], [.int (i + 2), .retAddr 0, .int (lgx xs (i + 1)), .ref 1])) (h' := (107, I, J, R)) 4 rfl ?_
    refine mm_T.guard (y := ((485, [some (.retAddr 0), some (.ref 1), some (.ref 62), some (.int i)], [.int (lgx xs (i + 2)), .int (lgx xs (i + 1)), .ref 1]), (107, I, J, R))) rfl g.2.2.1 ?_
    refine mm_T.seg (f' := (489, [some (.retAddr 0), some (.ref 1), some (.ref 62), some (.int i)], [.int (i + 3), .retAddr 0, .int (lgx xs (i + 2)), .int (lgx xs (i + 1)), .ref 1])) (h' := (107, I, J, R)) 4 rfl ?_
    refine mm_T.guard (y := ((490, [some (.retAddr 0), some (.ref 1), some (.ref 62), some (.int i)], [.int (lgx xs (i + 3)), .int (lgx xs (i + 2)), .int (lgx xs (i + 1)), .ref 1]), (107, I, J, R))) rfl g.2.2.2.1 ?_
    refine mm_T.br (c := lgx xs (i + 3) = 0) (a := ((497, [some (.retAddr 0), some (.ref 1), some (.ref 62), some (.int i)], [.int (lgx xs (i + 2)), .int (lgx xs (i + 1)), .ref 1]), (107, I, J, R))) (b := ((493, [some (.retAddr 0), some (.ref 1), some (.ref 62), some (.int i)], [.int (lgx xs (i + 2)), .int (lgx xs (i + 1)), .ref 1]), (107, I, J, R))) rfl (fun _ => ?_) (fun hx0 => absurd hx hx0)
    refine mm_T.seg (f' := (498, [some (.retAddr 0), some (.ref 1), some (.ref 62), some (.int i)], [.int 0, .int (lgx xs (i + 2)), .int (lgx xs (i + 1)), .ref 1])) (h' := (107, I, J, R)) 1 rfl ?_
    refine mm_T.call (d := 999) (t := 168) (as := [.ref 1, .int (lgx xs (i + 1)), .int (lgx xs (i + 2)), .int 0]) (f' := (501, [some (.retAddr 0), some (.ref 1), some (.ref 62), some (.int i)], [])) rfl (T1.deep (by decide)) (fun v h hq => ?_)
    obtain ⟨rfl, rfl⟩ := hq
    refine mm_T.seg (f' := (506, [some (.retAddr 0), some (.ref 1), some (.ref 62), some (.int i)], [.int (i + 1), .retAddr 0, .ref 62, .int x])) (h' := (107, I1, J1, R1)) 5 rfl ?_
    refine mm_T.guard (y := ((507, [some (.retAddr 0), some (.ref 1), some (.ref 62), some (.int i)], [.int (lgx xs (i + 1)), .ref 62, .int x]), (107, I1, J1, R1))) rfl g.2.1 ?_
    refine mm_T.seg (f' := (511, [some (.retAddr 0), some (.ref 1), some (.ref 62), some (.int i)], [.int (i + 2), .retAddr 0, .int (lgx xs (i + 1)), .ref 62, .int x])) (h' := (107, I1, J1, R1)) 4 rfl ?_
    refine mm_T.guard (y := ((512, [some (.retAddr 0), some (.ref 1), some (.ref 62), some (.int i)], [.int (lgx xs (i + 2)), .int (lgx xs (i + 1)), .ref 62, .int x]), (107, I1, J1, R1))) rfl g.2.2.1 ?_
    refine mm_T.seg (f' := (516, [some (.retAddr 0), some (.ref 1), some (.ref 62), some (.int i)], [.int (i + 3), .retAddr 0, .int (lgx xs (i + 2)), .int (lgx xs (i + 1)), .ref 62, .int x])) (h' := (107, I1, J1, R1)) 4 rfl ?_
    refine mm_T.guard (y := ((517, [some (.retAddr 0), some (.ref 1), some (.ref 62), some (.int i)], [.int (lgx xs (i + 3)), .int (lgx xs (i + 2)), .int (lgx xs (i + 1)), .ref 62, .int x]), (107, I1, J1, R1))) rfl g.2.2.2.1 ?_
    refine mm_T.br (c := lgx xs (i + 3) = 0) (a := ((524, [some (.retAddr 0), some (.ref 1), some (.ref 62), some (.int i)], [.int (lgx xs (i + 2)), .int (lgx xs (i + 1)), .ref 62, .int x]), (107, I1, J1, R1))) (b := ((520, [some (.retAddr 0), some (.ref 1), some (.ref 62), some (.int i)], [.int (lgx xs (i + 2)), .int (lgx xs (i + 1)), .ref 62, .int x]), (107, I1, J1, R1))) rfl (fun _ => ?_) (fun hx0 => absurd hx hx0)
    refine mm_T.seg (f' := (525, [some (.retAddr 0), some (.ref 1), some (.ref 62), some (.int i)], [.int 0, .int (lgx xs (i + 2)), .int (lgx xs (i + 1)), .ref 62, .int x])) (h' := (107, I1, J1, R1)) 1 rfl ?_
    refine mm_T.call (d := 999) (t := 269) (as := [.ref 62, .int (lgx xs (i + 1)), .int (lgx xs (i + 2)), .int 0]) (f' := (528, [some (.retAddr 0), some (.ref 1), some (.ref 62), some (.int i)], [.int x])) rfl (T2.deep (by decide)) (fun v h hq => ?_)
    obtain ⟨rfl, rfl⟩ := hq
    exact mm_T.br (c := x = x) (a := ((1427, [some (.retAddr 0), some (.ref 1), some (.ref 62), some (.int i)], []), h)) (b := ((531, [some (.retAddr 0), some (.ref 1), some (.ref 62), some (.int i)], []), h)) rfl (fun _ => k _ hI) (fun hn => absurd rfl hn)
  · obtain ⟨x, h1, h2, T1, T2, e1, hI⟩ := C_stroke ht hi (lgx xs (i + 1)) (lgx xs (i + 2)) (1)
    obtain ⟨q1, I1, J1, R1⟩ := h1
    obtain rfl : q1 = 107 := e1
    refine mm_T.seg (f' := (479, [some (.retAddr 0), some (.ref 1), some (.ref 62), some (.int i)], [.int (i + 1), .retAddr 0, .ref 1])) (h' := (107, I, J, R)) 5 rfl ?_
    refine mm_T.guard (y := ((480, [some (.retAddr 0), some (.ref 1), some (.ref 62), some (.int i)], [.int (lgx xs (i + 1)), .ref 1]), (107, I, J, R))) rfl g.2.1 ?_
    refine mm_T.seg (f' := (484, [some (.retAddr 0), some (.ref 1), some (.ref 62), some (.int i)], [.int (i + 2), .retAddr 0, .int (lgx xs (i + 1)), .ref 1])) (h' := (107, I, J, R)) 4 rfl ?_
    refine mm_T.guard (y := ((485, [some (.retAddr 0), some (.ref 1), some (.ref 62), some (.int i)], [.int (lgx xs (i + 2)), .int (lgx xs (i + 1)), .ref 1]), (107, I, J, R))) rfl g.2.2.1 ?_
    refine mm_T.seg (f' := (489, [some (.retAddr 0), some (.ref 1), some (.ref 62), some (.int i)], [.int (i + 3), .retAddr 0, .int (lgx xs (i + 2)), .int (lgx xs (i + 1)), .ref 1])) (h' := (107, I, J, R)) 4 rfl ?_
    refine mm_T.guard (y := ((490, [some (.retAddr 0), some (.ref 1), some (.ref 62), some (.int i)], [.int (lgx xs (i + 3)), .int (lgx xs (i + 2)), .int (lgx xs (i + 1)), .ref 1]), (107, I, J, R))) rfl g.2.2.2.1 ?_
    refine mm_T.br (c := lgx xs (i + 3) = 0) (a := ((497, [some (.retAddr 0), some (.ref 1), some (.ref 62), some (.int i)], [.int (lgx xs (i + 2)), .int (lgx xs (i + 1)), .ref 1]), (107, I, J, R))) (b := ((493, [some (.retAddr 0), some (.ref 1), some (.ref 62), some (.int i)], [.int (lgx xs (i + 2)), .int (lgx xs (i + 1)), .ref 1]), (107, I, J, R))) rfl (fun hx0 => absurd hx0 hx) (fun _ => ?_)
    refine mm_T.seg (f' := (498, [some (.retAddr 0), some (.ref 1), some (.ref 62), some (.int i)], [.int 1, .int (lgx xs (i + 2)), .int (lgx xs (i + 1)), .ref 1])) (h' := (107, I, J, R)) 2 rfl ?_
    refine mm_T.call (d := 999) (t := 168) (as := [.ref 1, .int (lgx xs (i + 1)), .int (lgx xs (i + 2)), .int 1]) (f' := (501, [some (.retAddr 0), some (.ref 1), some (.ref 62), some (.int i)], [])) rfl (T1.deep (by decide)) (fun v h hq => ?_)
    obtain ⟨rfl, rfl⟩ := hq
    refine mm_T.seg (f' := (506, [some (.retAddr 0), some (.ref 1), some (.ref 62), some (.int i)], [.int (i + 1), .retAddr 0, .ref 62, .int x])) (h' := (107, I1, J1, R1)) 5 rfl ?_
    refine mm_T.guard (y := ((507, [some (.retAddr 0), some (.ref 1), some (.ref 62), some (.int i)], [.int (lgx xs (i + 1)), .ref 62, .int x]), (107, I1, J1, R1))) rfl g.2.1 ?_
    refine mm_T.seg (f' := (511, [some (.retAddr 0), some (.ref 1), some (.ref 62), some (.int i)], [.int (i + 2), .retAddr 0, .int (lgx xs (i + 1)), .ref 62, .int x])) (h' := (107, I1, J1, R1)) 4 rfl ?_
    refine mm_T.guard (y := ((512, [some (.retAddr 0), some (.ref 1), some (.ref 62), some (.int i)], [.int (lgx xs (i + 2)), .int (lgx xs (i + 1)), .ref 62, .int x]), (107, I1, J1, R1))) rfl g.2.2.1 ?_
    refine mm_T.seg (f' := (516, [some (.retAddr 0), some (.ref 1), some (.ref 62), some (.int i)], [.int (i + 3), .retAddr 0, .int (lgx xs (i + 2)), .int (lgx xs (i + 1)), .ref 62, .int x])) (h' := (107, I1, J1, R1)) 4 rfl ?_
    refine mm_T.guard (y := ((517, [some (.retAddr 0), some (.ref 1), some (.ref 62), some (.int i)], [.int (lgx xs (i + 3)), .int (lgx xs (i + 2)), .int (lgx xs (i + 1)), .ref 62, .int x]), (107, I1, J1, R1))) rfl g.2.2.2.1 ?_
    refine mm_T.br (c := lgx xs (i + 3) = 0) (a := ((524, [some (.retAddr 0), some (.ref 1), some (.ref 62), some (.int i)], [.int (lgx xs (i + 2)), .int (lgx xs (i + 1)), .ref 62, .int x]), (107, I1, J1, R1))) (b := ((520, [some (.retAddr 0), some (.ref 1), some (.ref 62), some (.int i)], [.int (lgx xs (i + 2)), .int (lgx xs (i + 1)), .ref 62, .int x]), (107, I1, J1, R1))) rfl (fun hx0 => absurd hx0 hx) (fun _ => ?_)
    refine mm_T.seg (f' := (525, [some (.retAddr 0), some (.ref 1), some (.ref 62), some (.int i)], [.int 1, .int (lgx xs (i + 2)), .int (lgx xs (i + 1)), .ref 62, .int x])) (h' := (107, I1, J1, R1)) 2 rfl ?_
    refine mm_T.call (d := 999) (t := 269) (as := [.ref 62, .int (lgx xs (i + 1)), .int (lgx xs (i + 2)), .int 1]) (f' := (528, [some (.retAddr 0), some (.ref 1), some (.ref 62), some (.int i)], [.int x])) rfl (T2.deep (by decide)) (fun v h hq => ?_)
    obtain ⟨rfl, rfl⟩ := hq
    exact mm_T.br (c := x = x) (a := ((1427, [some (.retAddr 0), some (.ref 1), some (.ref 62), some (.int i)], []), h)) (b := ((531, [some (.retAddr 0), some (.ref 1), some (.ref 62), some (.int i)], []), h)) rfl (fun _ => k _ hI) (fun hn => absurd rfl hn)
set_option maxRecDepth 100000 in
set_option maxHeartbeats 4000000 in
theorem L_stow (g : okI L i) (ht : 0 ≤ t ∧ t < 600) (hi : INV t h) (k : ∀ h2, INV (t + 1) h2 → mm_T (some (L, xs)) 1000 350 (1427, [some (.retAddr 0), some (.ref 1), some (.ref 62), some (.int i)], []) h2 Q) : mm_T (some (L, xs)) 1000 350 (533, [some (.retAddr 0), some (.ref 1), some (.ref 62), some (.int i)], []) h Q := by
  obtain ⟨I, J, R, rfl⟩ := INV_h hi
  obtain ⟨x, h1, h2, T1, T2, e1, hI⟩ := C_stow ht hi (lgx xs (i + 1)) (lgx xs (i + 2))
  obtain ⟨q1, I1, J1, R1⟩ := h1
  obtain rfl : q1 = 107 := e1
  refine mm_T.seg (f' := (538, [some (.retAddr 0), some (.ref 1), some (.ref 62), some (.int i)], [.int (i + 1), .retAddr 0, .ref 1])) (h' := (107, I, J, R)) 5 rfl ?_
  refine mm_T.guard (y := ((539, [some (.retAddr 0), some (.ref 1), some (.ref 62), some (.int i)], [.int (lgx xs (i + 1)), .ref 1]), (107, I, J, R))) rfl g.2.1 ?_
  refine mm_T.seg (f' := (543, [some (.retAddr 0), some (.ref 1), some (.ref 62), some (.int i)], [.int (i + 2), .retAddr 0, .int (lgx xs (i + 1)), .ref 1])) (h' := (107, I, J, R)) 4 rfl ?_
  refine mm_T.guard (y := ((544, [some (.retAddr 0), some (.ref 1), some (.ref 62), some (.int i)], [.int (lgx xs (i + 2)), .int (lgx xs (i + 1)), .ref 1]), (107, I, J, R))) rfl g.2.2.1 ?_
  refine mm_T.call (d := 999) (t := 170) (as := [.ref 1, .int (lgx xs (i + 1)), .int (lgx xs (i + 2))]) (f' := (547, [some (.retAddr 0), some (.ref 1), some (.ref 62), some (.int i)], [])) rfl (T1.deep (by decide)) (fun v h hq => ?_)
  obtain ⟨rfl, rfl⟩ := hq
  refine mm_T.seg (f' := (552, [some (.retAddr 0), some (.ref 1), some (.ref 62), some (.int i)], [.int (i + 1), .retAddr 0, .ref 62, .int x])) (h' := (107, I1, J1, R1)) 5 rfl ?_
  refine mm_T.guard (y := ((553, [some (.retAddr 0), some (.ref 1), some (.ref 62), some (.int i)], [.int (lgx xs (i + 1)), .ref 62, .int x]), (107, I1, J1, R1))) rfl g.2.1 ?_
  refine mm_T.seg (f' := (557, [some (.retAddr 0), some (.ref 1), some (.ref 62), some (.int i)], [.int (i + 2), .retAddr 0, .int (lgx xs (i + 1)), .ref 62, .int x])) (h' := (107, I1, J1, R1)) 4 rfl ?_
  refine mm_T.guard (y := ((558, [some (.retAddr 0), some (.ref 1), some (.ref 62), some (.int i)], [.int (lgx xs (i + 2)), .int (lgx xs (i + 1)), .ref 62, .int x]), (107, I1, J1, R1))) rfl g.2.2.1 ?_
  refine mm_T.call (d := 999) (t := 272) (as := [.ref 62, .int (lgx xs (i + 1)), .int (lgx xs (i + 2))]) (f' := (561, [some (.retAddr 0), some (.ref 1), some (.ref 62), some (.int i)], [.int x])) rfl (T2.deep (by decide)) (fun v h hq => ?_)
  obtain ⟨rfl, rfl⟩ := hq
  exact mm_T.br (c := x = x) (a := ((1427, [some (.retAddr 0), some (.ref 1), some (.ref 62), some (.int i)], []), h)) (b := ((564, [some (.retAddr 0), some (.ref 1), some (.ref 62), some (.int i)], []), h)) rfl (fun _ => k _ hI) (fun hn => absurd rfl hn)
set_option maxRecDepth 100000 in
set_option maxHeartbeats 4000000 in
theorem L_take (g : okI L i) (ht : 0 ≤ t ∧ t < 600) (hi : INV t h) (k : ∀ h2, INV (t + 1) h2 → mm_T (some (L, xs)) 1000 350 (1427, [some (.retAddr 0), some (.ref 1), some (.ref 62), some (.int i)], []) h2 Q) : mm_T (some (L, xs)) 1000 350 (566, [some (.retAddr 0), some (.ref 1), some (.ref 62), some (.int i)], []) h Q := by
  obtain ⟨I, J, R, rfl⟩ := INV_h hi
  obtain ⟨x, h1, h2, T1, T2, e1, hI⟩ := C_take ht hi (lgx xs (i + 1))
  obtain ⟨q1, I1, J1, R1⟩ := h1
  obtain rfl : q1 = 107 := e1
  refine mm_T.seg (f' := (571, [some (.retAddr 0), some (.ref 1), some (.ref 62), some (.int i)], [.int (i + 1), .retAddr 0, .ref 1])) (h' := (107, I, J, R)) 5 rfl ?_
  refine mm_T.guard (y := ((572, [some (.retAddr 0), some (.ref 1), some (.ref 62), some (.int i)], [.int (lgx xs (i + 1)), .ref 1]), (107, I, J, R))) rfl g.2.1 ?_
  refine mm_T.call (d := 999) (t := 171) (as := [.ref 1, .int (lgx xs (i + 1))]) (f' := (575, [some (.retAddr 0), some (.ref 1), some (.ref 62), some (.int i)], [])) rfl (T1.deep (by decide)) (fun v h hq => ?_)
  obtain ⟨rfl, rfl⟩ := hq
  refine mm_T.seg (f' := (580, [some (.retAddr 0), some (.ref 1), some (.ref 62), some (.int i)], [.int (i + 1), .retAddr 0, .ref 62, .int x])) (h' := (107, I1, J1, R1)) 5 rfl ?_
  refine mm_T.guard (y := ((581, [some (.retAddr 0), some (.ref 1), some (.ref 62), some (.int i)], [.int (lgx xs (i + 1)), .ref 62, .int x]), (107, I1, J1, R1))) rfl g.2.1 ?_
  refine mm_T.call (d := 999) (t := 273) (as := [.ref 62, .int (lgx xs (i + 1))]) (f' := (584, [some (.retAddr 0), some (.ref 1), some (.ref 62), some (.int i)], [.int x])) rfl (T2.deep (by decide)) (fun v h hq => ?_)
  obtain ⟨rfl, rfl⟩ := hq
  exact mm_T.br (c := x = x) (a := ((1427, [some (.retAddr 0), some (.ref 1), some (.ref 62), some (.int i)], []), h)) (b := ((587, [some (.retAddr 0), some (.ref 1), some (.ref 62), some (.int i)], []), h)) rfl (fun _ => k _ hI) (fun hn => absurd rfl hn)
set_option maxRecDepth 100000 in
set_option maxHeartbeats 4000000 in
theorem L_cool (g : okI L i) (ht : 0 ≤ t ∧ t < 600) (hi : INV t h) (k : ∀ h2, INV (t + 1) h2 → mm_T (some (L, xs)) 1000 350 (1427, [some (.retAddr 0), some (.ref 1), some (.ref 62), some (.int i)], []) h2 Q) : mm_T (some (L, xs)) 1000 350 (589, [some (.retAddr 0), some (.ref 1), some (.ref 62), some (.int i)], []) h Q := by
  obtain ⟨I, J, R, rfl⟩ := INV_h hi
  obtain ⟨x, h1, h2, T1, T2, e1, hI⟩ := C_cool ht hi (lgx xs (i + 1)) (lgx xs (i + 2))
  obtain ⟨q1, I1, J1, R1⟩ := h1
  obtain rfl : q1 = 107 := e1
  refine mm_T.seg (f' := (594, [some (.retAddr 0), some (.ref 1), some (.ref 62), some (.int i)], [.int (i + 1), .retAddr 0, .ref 1])) (h' := (107, I, J, R)) 5 rfl ?_
  refine mm_T.guard (y := ((595, [some (.retAddr 0), some (.ref 1), some (.ref 62), some (.int i)], [.int (lgx xs (i + 1)), .ref 1]), (107, I, J, R))) rfl g.2.1 ?_
  refine mm_T.seg (f' := (599, [some (.retAddr 0), some (.ref 1), some (.ref 62), some (.int i)], [.int (i + 2), .retAddr 0, .int (lgx xs (i + 1)), .ref 1])) (h' := (107, I, J, R)) 4 rfl ?_
  refine mm_T.guard (y := ((600, [some (.retAddr 0), some (.ref 1), some (.ref 62), some (.int i)], [.int (lgx xs (i + 2)), .int (lgx xs (i + 1)), .ref 1]), (107, I, J, R))) rfl g.2.2.1 ?_
  refine mm_T.call (d := 999) (t := 172) (as := [.ref 1, .int (lgx xs (i + 1)), .int (lgx xs (i + 2))]) (f' := (603, [some (.retAddr 0), some (.ref 1), some (.ref 62), some (.int i)], [])) rfl (T1.deep (by decide)) (fun v h hq => ?_)
  obtain ⟨rfl, rfl⟩ := hq
  refine mm_T.seg (f' := (608, [some (.retAddr 0), some (.ref 1), some (.ref 62), some (.int i)], [.int (i + 1), .retAddr 0, .ref 62, .int x])) (h' := (107, I1, J1, R1)) 5 rfl ?_
  refine mm_T.guard (y := ((609, [some (.retAddr 0), some (.ref 1), some (.ref 62), some (.int i)], [.int (lgx xs (i + 1)), .ref 62, .int x]), (107, I1, J1, R1))) rfl g.2.1 ?_
  refine mm_T.seg (f' := (613, [some (.retAddr 0), some (.ref 1), some (.ref 62), some (.int i)], [.int (i + 2), .retAddr 0, .int (lgx xs (i + 1)), .ref 62, .int x])) (h' := (107, I1, J1, R1)) 4 rfl ?_
  refine mm_T.guard (y := ((614, [some (.retAddr 0), some (.ref 1), some (.ref 62), some (.int i)], [.int (lgx xs (i + 2)), .int (lgx xs (i + 1)), .ref 62, .int x]), (107, I1, J1, R1))) rfl g.2.2.1 ?_
  refine mm_T.call (d := 999) (t := 274) (as := [.ref 62, .int (lgx xs (i + 1)), .int (lgx xs (i + 2))]) (f' := (617, [some (.retAddr 0), some (.ref 1), some (.ref 62), some (.int i)], [.int x])) rfl (T2.deep (by decide)) (fun v h hq => ?_)
  obtain ⟨rfl, rfl⟩ := hq
  exact mm_T.br (c := x = x) (a := ((1427, [some (.retAddr 0), some (.ref 1), some (.ref 62), some (.int i)], []), h)) (b := ((620, [some (.retAddr 0), some (.ref 1), some (.ref 62), some (.int i)], []), h)) rfl (fun _ => k _ hI) (fun hn => absurd rfl hn)
set_option maxRecDepth 100000 in
set_option maxHeartbeats 4000000 in
theorem L_undo (g : okI L i) (ht : 0 ≤ t ∧ t < 600) (hi : INV t h) (k : ∀ h2, INV (t + 1) h2 → mm_T (some (L, xs)) 1000 350 (1427, [some (.retAddr 0), some (.ref 1), some (.ref 62), some (.int i)], []) h2 Q) : mm_T (some (L, xs)) 1000 350 (622, [some (.retAddr 0), some (.ref 1), some (.ref 62), some (.int i)], []) h Q := by
  obtain ⟨I, J, R, rfl⟩ := INV_h hi
  obtain ⟨x, h1, h2, T1, T2, e1, hI⟩ := C_undo ht hi 
  obtain ⟨q1, I1, J1, R1⟩ := h1
  obtain rfl : q1 = 107 := e1
  refine mm_T.seg (f' := (623, [some (.retAddr 0), some (.ref 1), some (.ref 62), some (.int i)], [.ref 1])) (h' := (107, I, J, R)) 1 rfl ?_
  refine mm_T.call (d := 999) (t := 173) (as := [.ref 1]) (f' := (626, [some (.retAddr 0), some (.ref 1), some (.ref 62), some (.int i)], [])) rfl (T1.deep (by decide)) (fun v h hq => ?_)
  obtain ⟨rfl, rfl⟩ := hq
  refine mm_T.seg (f' := (627, [some (.retAddr 0), some (.ref 1), some (.ref 62), some (.int i)], [.ref 62, .int x])) (h' := (107, I1, J1, R1)) 1 rfl ?_
  refine mm_T.call (d := 999) (t := 275) (as := [.ref 62]) (f' := (630, [some (.retAddr 0), some (.ref 1), some (.ref 62), some (.int i)], [.int x])) rfl (T2.deep (by decide)) (fun v h hq => ?_)
  obtain ⟨rfl, rfl⟩ := hq
  exact mm_T.br (c := x = x) (a := ((1427, [some (.retAddr 0), some (.ref 1), some (.ref 62), some (.int i)], []), h)) (b := ((633, [some (.retAddr 0), some (.ref 1), some (.ref 62), some (.int i)], []), h)) rfl (fun _ => k _ hI) (fun hn => absurd rfl hn)
set_option maxRecDepth 100000 in
set_option maxHeartbeats 4000000 in
theorem L_redo (g : okI L i) (ht : 0 ≤ t ∧ t < 600) (hi : INV t h) (k : ∀ h2, INV (t + 1) h2 → mm_T (some (L, xs)) 1000 350 (1427, [some (.retAddr 0), some (.ref 1), some (.ref 62), some (.int i)], []) h2 Q) : mm_T (some (L, xs)) 1000 350 (635, [some (.retAddr 0), some (.ref 1), some (.ref 62), some (.int i)], []) h Q := by
  obtain ⟨I, J, R, rfl⟩ := INV_h hi
  obtain ⟨x, h1, h2, T1, T2, e1, hI⟩ := C_redo ht hi 
  obtain ⟨q1, I1, J1, R1⟩ := h1
  obtain rfl : q1 = 107 := e1
  refine mm_T.seg (f' := (636, [some (.retAddr 0), some (.ref 1), some (.ref 62), some (.int i)], [.ref 1])) (h' := (107, I, J, R)) 1 rfl ?_
  refine mm_T.call (d := 999) (t := 174) (as := [.ref 1]) (f' := (639, [some (.retAddr 0), some (.ref 1), some (.ref 62), some (.int i)], [])) rfl (T1.deep (by decide)) (fun v h hq => ?_)
  obtain ⟨rfl, rfl⟩ := hq
  refine mm_T.seg (f' := (640, [some (.retAddr 0), some (.ref 1), some (.ref 62), some (.int i)], [.ref 62, .int x])) (h' := (107, I1, J1, R1)) 1 rfl ?_
  refine mm_T.call (d := 999) (t := 276) (as := [.ref 62]) (f' := (643, [some (.retAddr 0), some (.ref 1), some (.ref 62), some (.int i)], [.int x])) rfl (T2.deep (by decide)) (fun v h hq => ?_)
  obtain ⟨rfl, rfl⟩ := hq
  exact mm_T.br (c := x = x) (a := ((1427, [some (.retAddr 0), some (.ref 1), some (.ref 62), some (.int i)], []), h)) (b := ((646, [some (.retAddr 0), some (.ref 1), some (.ref 62), some (.int i)], []), h)) rfl (fun _ => k _ hI) (fun hn => absurd rfl hn)
set_option maxRecDepth 100000 in
set_option maxHeartbeats 4000000 in
theorem L_landings (g : okI L i) (ht : 0 ≤ t ∧ t < 600) (hi : INV t h) (k : ∀ h2, INV (t + 1) h2 → mm_T (some (L, xs)) 1000 350 (1427, [some (.retAddr 0), some (.ref 1), some (.ref 62), some (.int i)], []) h2 Q) : mm_T (some (L, xs)) 1000 350 (648, [some (.retAddr 0), some (.ref 1), some (.ref 62), some (.int i)], []) h Q := by
  obtain ⟨I, J, R, rfl⟩ := INV_h hi
  obtain ⟨x, h1, h2, T1, T2, e1, hI⟩ := C_landings ht hi (lgx xs (i + 1))
  obtain ⟨q1, I1, J1, R1⟩ := h1
  obtain rfl : q1 = 107 := e1
  refine mm_T.seg (f' := (653, [some (.retAddr 0), some (.ref 1), some (.ref 62), some (.int i)], [.int (i + 1), .retAddr 0, .ref 1])) (h' := (107, I, J, R)) 5 rfl ?_
  refine mm_T.guard (y := ((654, [some (.retAddr 0), some (.ref 1), some (.ref 62), some (.int i)], [.int (lgx xs (i + 1)), .ref 1]), (107, I, J, R))) rfl g.2.1 ?_
  refine mm_T.call (d := 999) (t := 175) (as := [.ref 1, .int (lgx xs (i + 1))]) (f' := (657, [some (.retAddr 0), some (.ref 1), some (.ref 62), some (.int i)], [])) rfl (T1.deep (by decide)) (fun v h hq => ?_)
  obtain ⟨rfl, rfl⟩ := hq
  refine mm_T.seg (f' := (662, [some (.retAddr 0), some (.ref 1), some (.ref 62), some (.int i)], [.int (i + 1), .retAddr 0, .ref 62, .int x])) (h' := (107, I1, J1, R1)) 5 rfl ?_
  refine mm_T.guard (y := ((663, [some (.retAddr 0), some (.ref 1), some (.ref 62), some (.int i)], [.int (lgx xs (i + 1)), .ref 62, .int x]), (107, I1, J1, R1))) rfl g.2.1 ?_
  refine mm_T.call (d := 999) (t := 282) (as := [.ref 62, .int (lgx xs (i + 1))]) (f' := (666, [some (.retAddr 0), some (.ref 1), some (.ref 62), some (.int i)], [.int x])) rfl (T2.deep (by decide)) (fun v h hq => ?_)
  obtain ⟨rfl, rfl⟩ := hq
  exact mm_T.br (c := x = x) (a := ((1427, [some (.retAddr 0), some (.ref 1), some (.ref 62), some (.int i)], []), h)) (b := ((669, [some (.retAddr 0), some (.ref 1), some (.ref 62), some (.int i)], []), h)) rfl (fun _ => k _ hI) (fun hn => absurd rfl hn)
set_option maxRecDepth 100000 in
set_option maxHeartbeats 4000000 in
theorem L_drift (g : okI L i) (ht : 0 ≤ t ∧ t < 600) (hi : INV t h) (k : ∀ h2, INV (t + 1) h2 → mm_T (some (L, xs)) 1000 350 (1427, [some (.retAddr 0), some (.ref 1), some (.ref 62), some (.int i)], []) h2 Q) : mm_T (some (L, xs)) 1000 350 (671, [some (.retAddr 0), some (.ref 1), some (.ref 62), some (.int i)], []) h Q := by
  obtain ⟨I, J, R, rfl⟩ := INV_h hi
  obtain ⟨x, h1, h2, T1, T2, e1, hI⟩ := C_drift ht hi (lgx xs (i + 1))
  obtain ⟨q1, I1, J1, R1⟩ := h1
  obtain rfl : q1 = 107 := e1
  refine mm_T.seg (f' := (676, [some (.retAddr 0), some (.ref 1), some (.ref 62), some (.int i)], [.int (i + 1), .retAddr 0, .ref 1])) (h' := (107, I, J, R)) 5 rfl ?_
  refine mm_T.guard (y := ((677, [some (.retAddr 0), some (.ref 1), some (.ref 62), some (.int i)], [.int (lgx xs (i + 1)), .ref 1]), (107, I, J, R))) rfl g.2.1 ?_
  refine mm_T.call (d := 999) (t := 176) (as := [.ref 1, .int (lgx xs (i + 1))]) (f' := (680, [some (.retAddr 0), some (.ref 1), some (.ref 62), some (.int i)], [])) rfl (T1.deep (by decide)) (fun v h hq => ?_)
  obtain ⟨rfl, rfl⟩ := hq
  refine mm_T.seg (f' := (685, [some (.retAddr 0), some (.ref 1), some (.ref 62), some (.int i)], [.int (i + 1), .retAddr 0, .ref 62, .int x])) (h' := (107, I1, J1, R1)) 5 rfl ?_
  refine mm_T.guard (y := ((686, [some (.retAddr 0), some (.ref 1), some (.ref 62), some (.int i)], [.int (lgx xs (i + 1)), .ref 62, .int x]), (107, I1, J1, R1))) rfl g.2.1 ?_
  refine mm_T.call (d := 999) (t := 285) (as := [.ref 62, .int (lgx xs (i + 1))]) (f' := (689, [some (.retAddr 0), some (.ref 1), some (.ref 62), some (.int i)], [.int x])) rfl (T2.deep (by decide)) (fun v h hq => ?_)
  obtain ⟨rfl, rfl⟩ := hq
  exact mm_T.br (c := x = x) (a := ((1427, [some (.retAddr 0), some (.ref 1), some (.ref 62), some (.int i)], []), h)) (b := ((692, [some (.retAddr 0), some (.ref 1), some (.ref 62), some (.int i)], []), h)) rfl (fun _ => k _ hI) (fun hn => absurd rfl hn)
set_option maxRecDepth 100000 in
set_option maxHeartbeats 4000000 in
theorem L_rows (g : okI L i) (ht : 0 ≤ t ∧ t < 600) (hi : INV t h) (k : ∀ h2, INV (t + 1) h2 → mm_T (some (L, xs)) 1000 350 (1427, [some (.retAddr 0), some (.ref 1), some (.ref 62), some (.int i)], []) h2 Q) : mm_T (some (L, xs)) 1000 350 (694, [some (.retAddr 0), some (.ref 1), some (.ref 62), some (.int i)], []) h Q := by
  obtain ⟨I, J, R, rfl⟩ := INV_h hi
  obtain ⟨x, h1, h2, T1, T2, e1, hI⟩ := C_rows ht hi (lgx xs (i + 1))
  obtain ⟨q1, I1, J1, R1⟩ := h1
  obtain rfl : q1 = 107 := e1
  refine mm_T.seg (f' := (699, [some (.retAddr 0), some (.ref 1), some (.ref 62), some (.int i)], [.int (i + 1), .retAddr 0, .ref 1])) (h' := (107, I, J, R)) 5 rfl ?_
  refine mm_T.guard (y := ((700, [some (.retAddr 0), some (.ref 1), some (.ref 62), some (.int i)], [.int (lgx xs (i + 1)), .ref 1]), (107, I, J, R))) rfl g.2.1 ?_
  refine mm_T.call (d := 999) (t := 177) (as := [.ref 1, .int (lgx xs (i + 1))]) (f' := (703, [some (.retAddr 0), some (.ref 1), some (.ref 62), some (.int i)], [])) rfl (T1.deep (by decide)) (fun v h hq => ?_)
  obtain ⟨rfl, rfl⟩ := hq
  refine mm_T.seg (f' := (708, [some (.retAddr 0), some (.ref 1), some (.ref 62), some (.int i)], [.int (i + 1), .retAddr 0, .ref 62, .int x])) (h' := (107, I1, J1, R1)) 5 rfl ?_
  refine mm_T.guard (y := ((709, [some (.retAddr 0), some (.ref 1), some (.ref 62), some (.int i)], [.int (lgx xs (i + 1)), .ref 62, .int x]), (107, I1, J1, R1))) rfl g.2.1 ?_
  refine mm_T.call (d := 999) (t := 283) (as := [.ref 62, .int (lgx xs (i + 1))]) (f' := (712, [some (.retAddr 0), some (.ref 1), some (.ref 62), some (.int i)], [.int x])) rfl (T2.deep (by decide)) (fun v h hq => ?_)
  obtain ⟨rfl, rfl⟩ := hq
  exact mm_T.br (c := x = x) (a := ((1427, [some (.retAddr 0), some (.ref 1), some (.ref 62), some (.int i)], []), h)) (b := ((715, [some (.retAddr 0), some (.ref 1), some (.ref 62), some (.int i)], []), h)) rfl (fun _ => k _ hI) (fun hn => absurd rfl hn)
set_option maxRecDepth 100000 in
set_option maxHeartbeats 4000000 in
theorem L_coolest (g : okI L i) (ht : 0 ≤ t ∧ t < 600) (hi : INV t h) (k : ∀ h2, INV (t + 1) h2 → mm_T (some (L, xs)) 1000 350 (1427, [some (.retAddr 0), some (.ref 1), some (.ref 62), some (.int i)], []) h2 Q) : mm_T (some (L, xs)) 1000 350 (717, [some (.retAddr 0), some (.ref 1), some (.ref 62), some (.int i)], []) h Q := by
  obtain ⟨I, J, R, rfl⟩ := INV_h hi
  obtain ⟨x, h1, h2, T1, T2, e1, hI⟩ := C_coolest ht hi (lgx xs (i + 1)) (lgx xs (i + 2))
  obtain ⟨q1, I1, J1, R1⟩ := h1
  obtain rfl : q1 = 107 := e1
  refine mm_T.seg (f' := (722, [some (.retAddr 0), some (.ref 1), some (.ref 62), some (.int i)], [.int (i + 1), .retAddr 0, .ref 1])) (h' := (107, I, J, R)) 5 rfl ?_
  refine mm_T.guard (y := ((723, [some (.retAddr 0), some (.ref 1), some (.ref 62), some (.int i)], [.int (lgx xs (i + 1)), .ref 1]), (107, I, J, R))) rfl g.2.1 ?_
  refine mm_T.seg (f' := (727, [some (.retAddr 0), some (.ref 1), some (.ref 62), some (.int i)], [.int (i + 2), .retAddr 0, .int (lgx xs (i + 1)), .ref 1])) (h' := (107, I, J, R)) 4 rfl ?_
  refine mm_T.guard (y := ((728, [some (.retAddr 0), some (.ref 1), some (.ref 62), some (.int i)], [.int (lgx xs (i + 2)), .int (lgx xs (i + 1)), .ref 1]), (107, I, J, R))) rfl g.2.2.1 ?_
  refine mm_T.call (d := 999) (t := 178) (as := [.ref 1, .int (lgx xs (i + 1)), .int (lgx xs (i + 2))]) (f' := (731, [some (.retAddr 0), some (.ref 1), some (.ref 62), some (.int i)], [])) rfl (T1.deep (by decide)) (fun v h hq => ?_)
  obtain ⟨rfl, rfl⟩ := hq
  refine mm_T.seg (f' := (736, [some (.retAddr 0), some (.ref 1), some (.ref 62), some (.int i)], [.int (i + 1), .retAddr 0, .ref 62, .int x])) (h' := (107, I1, J1, R1)) 5 rfl ?_
  refine mm_T.guard (y := ((737, [some (.retAddr 0), some (.ref 1), some (.ref 62), some (.int i)], [.int (lgx xs (i + 1)), .ref 62, .int x]), (107, I1, J1, R1))) rfl g.2.1 ?_
  refine mm_T.seg (f' := (741, [some (.retAddr 0), some (.ref 1), some (.ref 62), some (.int i)], [.int (i + 2), .retAddr 0, .int (lgx xs (i + 1)), .ref 62, .int x])) (h' := (107, I1, J1, R1)) 4 rfl ?_
  refine mm_T.guard (y := ((742, [some (.retAddr 0), some (.ref 1), some (.ref 62), some (.int i)], [.int (lgx xs (i + 2)), .int (lgx xs (i + 1)), .ref 62, .int x]), (107, I1, J1, R1))) rfl g.2.2.1 ?_
  refine mm_T.call (d := 999) (t := 286) (as := [.ref 62, .int (lgx xs (i + 1)), .int (lgx xs (i + 2))]) (f' := (745, [some (.retAddr 0), some (.ref 1), some (.ref 62), some (.int i)], [.int x])) rfl (T2.deep (by decide)) (fun v h hq => ?_)
  obtain ⟨rfl, rfl⟩ := hq
  exact mm_T.br (c := x = x) (a := ((1427, [some (.retAddr 0), some (.ref 1), some (.ref 62), some (.int i)], []), h)) (b := ((748, [some (.retAddr 0), some (.ref 1), some (.ref 62), some (.int i)], []), h)) rfl (fun _ => k _ hI) (fun hn => absurd rfl hn)
set_option maxRecDepth 100000 in
set_option maxHeartbeats 4000000 in
theorem L_straight (g : okI L i) (ht : 0 ≤ t ∧ t < 600) (hi : INV t h) (k : ∀ h2, INV (t + 1) h2 → mm_T (some (L, xs)) 1000 350 (1427, [some (.retAddr 0), some (.ref 1), some (.ref 62), some (.int i)], []) h2 Q) : mm_T (some (L, xs)) 1000 350 (750, [some (.retAddr 0), some (.ref 1), some (.ref 62), some (.int i)], []) h Q := by
  obtain ⟨I, J, R, rfl⟩ := INV_h hi
  obtain ⟨x, h1, h2, T1, T2, e1, hI⟩ := C_straight ht hi (lgx xs (i + 1)) (lgx xs (i + 2))
  obtain ⟨q1, I1, J1, R1⟩ := h1
  obtain rfl : q1 = 107 := e1
  refine mm_T.seg (f' := (755, [some (.retAddr 0), some (.ref 1), some (.ref 62), some (.int i)], [.int (i + 1), .retAddr 0, .ref 1])) (h' := (107, I, J, R)) 5 rfl ?_
  refine mm_T.guard (y := ((756, [some (.retAddr 0), some (.ref 1), some (.ref 62), some (.int i)], [.int (lgx xs (i + 1)), .ref 1]), (107, I, J, R))) rfl g.2.1 ?_
  refine mm_T.seg (f' := (760, [some (.retAddr 0), some (.ref 1), some (.ref 62), some (.int i)], [.int (i + 2), .retAddr 0, .int (lgx xs (i + 1)), .ref 1])) (h' := (107, I, J, R)) 4 rfl ?_
  refine mm_T.guard (y := ((761, [some (.retAddr 0), some (.ref 1), some (.ref 62), some (.int i)], [.int (lgx xs (i + 2)), .int (lgx xs (i + 1)), .ref 1]), (107, I, J, R))) rfl g.2.2.1 ?_
  refine mm_T.call (d := 999) (t := 179) (as := [.ref 1, .int (lgx xs (i + 1)), .int (lgx xs (i + 2))]) (f' := (764, [some (.retAddr 0), some (.ref 1), some (.ref 62), some (.int i)], [])) rfl (T1.deep (by decide)) (fun v h hq => ?_)
  obtain ⟨rfl, rfl⟩ := hq
  refine mm_T.seg (f' := (769, [some (.retAddr 0), some (.ref 1), some (.ref 62), some (.int i)], [.int (i + 1), .retAddr 0, .ref 62, .int x])) (h' := (107, I1, J1, R1)) 5 rfl ?_
  refine mm_T.guard (y := ((770, [some (.retAddr 0), some (.ref 1), some (.ref 62), some (.int i)], [.int (lgx xs (i + 1)), .ref 62, .int x]), (107, I1, J1, R1))) rfl g.2.1 ?_
  refine mm_T.seg (f' := (774, [some (.retAddr 0), some (.ref 1), some (.ref 62), some (.int i)], [.int (i + 2), .retAddr 0, .int (lgx xs (i + 1)), .ref 62, .int x])) (h' := (107, I1, J1, R1)) 4 rfl ?_
  refine mm_T.guard (y := ((775, [some (.retAddr 0), some (.ref 1), some (.ref 62), some (.int i)], [.int (lgx xs (i + 2)), .int (lgx xs (i + 1)), .ref 62, .int x]), (107, I1, J1, R1))) rfl g.2.2.1 ?_
  refine mm_T.call (d := 999) (t := 288) (as := [.ref 62, .int (lgx xs (i + 1)), .int (lgx xs (i + 2))]) (f' := (778, [some (.retAddr 0), some (.ref 1), some (.ref 62), some (.int i)], [.int x])) rfl (T2.deep (by decide)) (fun v h hq => ?_)
  obtain ⟨rfl, rfl⟩ := hq
  exact mm_T.br (c := x = x) (a := ((1427, [some (.retAddr 0), some (.ref 1), some (.ref 62), some (.int i)], []), h)) (b := ((781, [some (.retAddr 0), some (.ref 1), some (.ref 62), some (.int i)], []), h)) rfl (fun _ => k _ hI) (fun hn => absurd rfl hn)
set_option maxRecDepth 100000 in
set_option maxHeartbeats 4000000 in
theorem L_widest (g : okI L i) (ht : 0 ≤ t ∧ t < 600) (hi : INV t h) (k : ∀ h2, INV (t + 1) h2 → mm_T (some (L, xs)) 1000 350 (1427, [some (.retAddr 0), some (.ref 1), some (.ref 62), some (.int i)], []) h2 Q) : mm_T (some (L, xs)) 1000 350 (783, [some (.retAddr 0), some (.ref 1), some (.ref 62), some (.int i)], []) h Q := by
  obtain ⟨I, J, R, rfl⟩ := INV_h hi
  obtain ⟨x, h1, h2, T1, T2, e1, hI⟩ := C_widest ht hi (lgx xs (i + 1)) (lgx xs (i + 2))
  obtain ⟨q1, I1, J1, R1⟩ := h1
  obtain rfl : q1 = 107 := e1
  refine mm_T.seg (f' := (788, [some (.retAddr 0), some (.ref 1), some (.ref 62), some (.int i)], [.int (i + 1), .retAddr 0, .ref 1])) (h' := (107, I, J, R)) 5 rfl ?_
  refine mm_T.guard (y := ((789, [some (.retAddr 0), some (.ref 1), some (.ref 62), some (.int i)], [.int (lgx xs (i + 1)), .ref 1]), (107, I, J, R))) rfl g.2.1 ?_
  refine mm_T.seg (f' := (793, [some (.retAddr 0), some (.ref 1), some (.ref 62), some (.int i)], [.int (i + 2), .retAddr 0, .int (lgx xs (i + 1)), .ref 1])) (h' := (107, I, J, R)) 4 rfl ?_
  refine mm_T.guard (y := ((794, [some (.retAddr 0), some (.ref 1), some (.ref 62), some (.int i)], [.int (lgx xs (i + 2)), .int (lgx xs (i + 1)), .ref 1]), (107, I, J, R))) rfl g.2.2.1 ?_
  refine mm_T.call (d := 999) (t := 180) (as := [.ref 1, .int (lgx xs (i + 1)), .int (lgx xs (i + 2))]) (f' := (797, [some (.retAddr 0), some (.ref 1), some (.ref 62), some (.int i)], [])) rfl (T1.deep (by decide)) (fun v h hq => ?_)
  obtain ⟨rfl, rfl⟩ := hq
  refine mm_T.seg (f' := (802, [some (.retAddr 0), some (.ref 1), some (.ref 62), some (.int i)], [.int (i + 1), .retAddr 0, .ref 62, .int x])) (h' := (107, I1, J1, R1)) 5 rfl ?_
  refine mm_T.guard (y := ((803, [some (.retAddr 0), some (.ref 1), some (.ref 62), some (.int i)], [.int (lgx xs (i + 1)), .ref 62, .int x]), (107, I1, J1, R1))) rfl g.2.1 ?_
  refine mm_T.seg (f' := (807, [some (.retAddr 0), some (.ref 1), some (.ref 62), some (.int i)], [.int (i + 2), .retAddr 0, .int (lgx xs (i + 1)), .ref 62, .int x])) (h' := (107, I1, J1, R1)) 4 rfl ?_
  refine mm_T.guard (y := ((808, [some (.retAddr 0), some (.ref 1), some (.ref 62), some (.int i)], [.int (lgx xs (i + 2)), .int (lgx xs (i + 1)), .ref 62, .int x]), (107, I1, J1, R1))) rfl g.2.2.1 ?_
  refine mm_T.call (d := 999) (t := 290) (as := [.ref 62, .int (lgx xs (i + 1)), .int (lgx xs (i + 2))]) (f' := (811, [some (.retAddr 0), some (.ref 1), some (.ref 62), some (.int i)], [.int x])) rfl (T2.deep (by decide)) (fun v h hq => ?_)
  obtain ⟨rfl, rfl⟩ := hq
  exact mm_T.br (c := x = x) (a := ((1427, [some (.retAddr 0), some (.ref 1), some (.ref 62), some (.int i)], []), h)) (b := ((814, [some (.retAddr 0), some (.ref 1), some (.ref 62), some (.int i)], []), h)) rfl (fun _ => k _ hI) (fun hn => absurd rfl hn)
set_option maxRecDepth 100000 in
set_option maxHeartbeats 4000000 in
theorem L_trips (g : okI L i) (ht : 0 ≤ t ∧ t < 600) (hi : INV t h) (k : ∀ h2, INV (t + 1) h2 → mm_T (some (L, xs)) 1000 350 (1427, [some (.retAddr 0), some (.ref 1), some (.ref 62), some (.int i)], []) h2 Q) : mm_T (some (L, xs)) 1000 350 (816, [some (.retAddr 0), some (.ref 1), some (.ref 62), some (.int i)], []) h Q := by
  obtain ⟨I, J, R, rfl⟩ := INV_h hi
  obtain ⟨x, h1, h2, T1, T2, e1, hI⟩ := C_trips ht hi (lgx xs (i + 1))
  obtain ⟨q1, I1, J1, R1⟩ := h1
  obtain rfl : q1 = 107 := e1
  refine mm_T.seg (f' := (821, [some (.retAddr 0), some (.ref 1), some (.ref 62), some (.int i)], [.int (i + 1), .retAddr 0, .ref 1])) (h' := (107, I, J, R)) 5 rfl ?_
  refine mm_T.guard (y := ((822, [some (.retAddr 0), some (.ref 1), some (.ref 62), some (.int i)], [.int (lgx xs (i + 1)), .ref 1]), (107, I, J, R))) rfl g.2.1 ?_
  refine mm_T.call (d := 999) (t := 181) (as := [.ref 1, .int (lgx xs (i + 1))]) (f' := (825, [some (.retAddr 0), some (.ref 1), some (.ref 62), some (.int i)], [])) rfl (T1.deep (by decide)) (fun v h hq => ?_)
  obtain ⟨rfl, rfl⟩ := hq
  refine mm_T.seg (f' := (830, [some (.retAddr 0), some (.ref 1), some (.ref 62), some (.int i)], [.int (i + 1), .retAddr 0, .ref 62, .int x])) (h' := (107, I1, J1, R1)) 5 rfl ?_
  refine mm_T.guard (y := ((831, [some (.retAddr 0), some (.ref 1), some (.ref 62), some (.int i)], [.int (lgx xs (i + 1)), .ref 62, .int x]), (107, I1, J1, R1))) rfl g.2.1 ?_
  refine mm_T.call (d := 999) (t := 295) (as := [.ref 62, .int (lgx xs (i + 1))]) (f' := (834, [some (.retAddr 0), some (.ref 1), some (.ref 62), some (.int i)], [.int x])) rfl (T2.deep (by decide)) (fun v h hq => ?_)
  obtain ⟨rfl, rfl⟩ := hq
  exact mm_T.br (c := x = x) (a := ((1427, [some (.retAddr 0), some (.ref 1), some (.ref 62), some (.int i)], []), h)) (b := ((837, [some (.retAddr 0), some (.ref 1), some (.ref 62), some (.int i)], []), h)) rfl (fun _ => k _ hI) (fun hn => absurd rfl hn)
set_option maxRecDepth 100000 in
set_option maxHeartbeats 4000000 in
theorem L_stowing (g : okI L i) (ht : 0 ≤ t ∧ t < 600) (hi : INV t h) (k : ∀ h2, INV (t + 1) h2 → mm_T (some (L, xs)) 1000 350 (1427, [some (.retAddr 0), some (.ref 1), some (.ref 62), some (.int i)], []) h2 Q) : mm_T (some (L, xs)) 1000 350 (839, [some (.retAddr 0), some (.ref 1), some (.ref 62), some (.int i)], []) h Q := by
  obtain ⟨I, J, R, rfl⟩ := INV_h hi
  obtain ⟨x, h1, h2, T1, T2, e1, hI⟩ := C_stowing ht hi 
  obtain ⟨q1, I1, J1, R1⟩ := h1
  obtain rfl : q1 = 107 := e1
  refine mm_T.seg (f' := (840, [some (.retAddr 0), some (.ref 1), some (.ref 62), some (.int i)], [.ref 1])) (h' := (107, I, J, R)) 1 rfl ?_
  refine mm_T.call (d := 999) (t := 182) (as := [.ref 1]) (f' := (843, [some (.retAddr 0), some (.ref 1), some (.ref 62), some (.int i)], [])) rfl (T1.deep (by decide)) (fun v h hq => ?_)
  obtain ⟨rfl, rfl⟩ := hq
  refine mm_T.seg (f' := (844, [some (.retAddr 0), some (.ref 1), some (.ref 62), some (.int i)], [.ref 62, .int x])) (h' := (107, I1, J1, R1)) 1 rfl ?_
  refine mm_T.call (d := 999) (t := 297) (as := [.ref 62]) (f' := (847, [some (.retAddr 0), some (.ref 1), some (.ref 62), some (.int i)], [.int x])) rfl (T2.deep (by decide)) (fun v h hq => ?_)
  obtain ⟨rfl, rfl⟩ := hq
  exact mm_T.br (c := x = x) (a := ((1427, [some (.retAddr 0), some (.ref 1), some (.ref 62), some (.int i)], []), h)) (b := ((850, [some (.retAddr 0), some (.ref 1), some (.ref 62), some (.int i)], []), h)) rfl (fun _ => k _ hI) (fun hn => absurd rfl hn)
set_option maxRecDepth 100000 in
set_option maxHeartbeats 4000000 in
theorem L_meet (g : okI L i) (ht : 0 ≤ t ∧ t < 600) (hi : INV t h) (k : ∀ h2, INV (t + 1) h2 → mm_T (some (L, xs)) 1000 350 (1427, [some (.retAddr 0), some (.ref 1), some (.ref 62), some (.int i)], []) h2 Q) : mm_T (some (L, xs)) 1000 350 (852, [some (.retAddr 0), some (.ref 1), some (.ref 62), some (.int i)], []) h Q := by
  obtain ⟨I, J, R, rfl⟩ := INV_h hi
  obtain ⟨x, h1, h2, T1, T2, e1, hI⟩ := C_meet ht hi (lgx xs (i + 1)) (lgx xs (i + 2))
  obtain ⟨q1, I1, J1, R1⟩ := h1
  obtain rfl : q1 = 107 := e1
  refine mm_T.seg (f' := (857, [some (.retAddr 0), some (.ref 1), some (.ref 62), some (.int i)], [.int (i + 1), .retAddr 0, .ref 1])) (h' := (107, I, J, R)) 5 rfl ?_
  refine mm_T.guard (y := ((858, [some (.retAddr 0), some (.ref 1), some (.ref 62), some (.int i)], [.int (lgx xs (i + 1)), .ref 1]), (107, I, J, R))) rfl g.2.1 ?_
  refine mm_T.seg (f' := (862, [some (.retAddr 0), some (.ref 1), some (.ref 62), some (.int i)], [.int (i + 2), .retAddr 0, .int (lgx xs (i + 1)), .ref 1])) (h' := (107, I, J, R)) 4 rfl ?_
  refine mm_T.guard (y := ((863, [some (.retAddr 0), some (.ref 1), some (.ref 62), some (.int i)], [.int (lgx xs (i + 2)), .int (lgx xs (i + 1)), .ref 1]), (107, I, J, R))) rfl g.2.2.1 ?_
  refine mm_T.call (d := 999) (t := 183) (as := [.ref 1, .int (lgx xs (i + 1)), .int (lgx xs (i + 2))]) (f' := (866, [some (.retAddr 0), some (.ref 1), some (.ref 62), some (.int i)], [])) rfl (T1.deep (by decide)) (fun v h hq => ?_)
  obtain ⟨rfl, rfl⟩ := hq
  refine mm_T.seg (f' := (871, [some (.retAddr 0), some (.ref 1), some (.ref 62), some (.int i)], [.int (i + 1), .retAddr 0, .ref 62, .int x])) (h' := (107, I1, J1, R1)) 5 rfl ?_
  refine mm_T.guard (y := ((872, [some (.retAddr 0), some (.ref 1), some (.ref 62), some (.int i)], [.int (lgx xs (i + 1)), .ref 62, .int x]), (107, I1, J1, R1))) rfl g.2.1 ?_
  refine mm_T.seg (f' := (876, [some (.retAddr 0), some (.ref 1), some (.ref 62), some (.int i)], [.int (i + 2), .retAddr 0, .int (lgx xs (i + 1)), .ref 62, .int x])) (h' := (107, I1, J1, R1)) 4 rfl ?_
  refine mm_T.guard (y := ((877, [some (.retAddr 0), some (.ref 1), some (.ref 62), some (.int i)], [.int (lgx xs (i + 2)), .int (lgx xs (i + 1)), .ref 62, .int x]), (107, I1, J1, R1))) rfl g.2.2.1 ?_
  refine mm_T.call (d := 999) (t := 300) (as := [.ref 62, .int (lgx xs (i + 1)), .int (lgx xs (i + 2))]) (f' := (880, [some (.retAddr 0), some (.ref 1), some (.ref 62), some (.int i)], [.int x])) rfl (T2.deep (by decide)) (fun v h hq => ?_)
  obtain ⟨rfl, rfl⟩ := hq
  exact mm_T.br (c := x = x) (a := ((1427, [some (.retAddr 0), some (.ref 1), some (.ref 62), some (.int i)], []), h)) (b := ((883, [some (.retAddr 0), some (.ref 1), some (.ref 62), some (.int i)], []), h)) rfl (fun _ => k _ hI) (fun hn => absurd rfl hn)
set_option maxRecDepth 100000 in
set_option maxHeartbeats 4000000 in
theorem L_mooring (g : okI L i) (ht : 0 ≤ t ∧ t < 600) (hi : INV t h) (k : ∀ h2, INV (t + 1) h2 → mm_T (some (L, xs)) 1000 350 (1427, [some (.retAddr 0), some (.ref 1), some (.ref 62), some (.int i)], []) h2 Q) : mm_T (some (L, xs)) 1000 350 (885, [some (.retAddr 0), some (.ref 1), some (.ref 62), some (.int i)], []) h Q := by
  obtain ⟨I, J, R, rfl⟩ := INV_h hi
  obtain ⟨x, h1, h2, T1, T2, e1, hI⟩ := C_mooring ht hi (lgx xs (i + 1))
  obtain ⟨q1, I1, J1, R1⟩ := h1
  obtain rfl : q1 = 107 := e1
  refine mm_T.seg (f' := (890, [some (.retAddr 0), some (.ref 1), some (.ref 62), some (.int i)], [.int (i + 1), .retAddr 0, .ref 1])) (h' := (107, I, J, R)) 5 rfl ?_
  refine mm_T.guard (y := ((891, [some (.retAddr 0), some (.ref 1), some (.ref 62), some (.int i)], [.int (lgx xs (i + 1)), .ref 1]), (107, I, J, R))) rfl g.2.1 ?_
  refine mm_T.call (d := 999) (t := 184) (as := [.ref 1, .int (lgx xs (i + 1))]) (f' := (894, [some (.retAddr 0), some (.ref 1), some (.ref 62), some (.int i)], [])) rfl (T1.deep (by decide)) (fun v h hq => ?_)
  obtain ⟨rfl, rfl⟩ := hq
  refine mm_T.seg (f' := (899, [some (.retAddr 0), some (.ref 1), some (.ref 62), some (.int i)], [.int (i + 1), .retAddr 0, .ref 62, .int x])) (h' := (107, I1, J1, R1)) 5 rfl ?_
  refine mm_T.guard (y := ((900, [some (.retAddr 0), some (.ref 1), some (.ref 62), some (.int i)], [.int (lgx xs (i + 1)), .ref 62, .int x]), (107, I1, J1, R1))) rfl g.2.1 ?_
  refine mm_T.call (d := 999) (t := 303) (as := [.ref 62, .int (lgx xs (i + 1))]) (f' := (903, [some (.retAddr 0), some (.ref 1), some (.ref 62), some (.int i)], [.int x])) rfl (T2.deep (by decide)) (fun v h hq => ?_)
  obtain ⟨rfl, rfl⟩ := hq
  exact mm_T.br (c := x = x) (a := ((1427, [some (.retAddr 0), some (.ref 1), some (.ref 62), some (.int i)], []), h)) (b := ((906, [some (.retAddr 0), some (.ref 1), some (.ref 62), some (.int i)], []), h)) rfl (fun _ => k _ hI) (fun hn => absurd rfl hn)
set_option maxRecDepth 100000 in
set_option maxHeartbeats 4000000 in
theorem L_guests (g : okI L i) (ht : 0 ≤ t ∧ t < 600) (hi : INV t h) (k : ∀ h2, INV (t + 1) h2 → mm_T (some (L, xs)) 1000 350 (1427, [some (.retAddr 0), some (.ref 1), some (.ref 62), some (.int i)], []) h2 Q) : mm_T (some (L, xs)) 1000 350 (908, [some (.retAddr 0), some (.ref 1), some (.ref 62), some (.int i)], []) h Q := by
  obtain ⟨I, J, R, rfl⟩ := INV_h hi
  obtain ⟨x, h1, h2, T1, T2, e1, hI⟩ := C_guests ht hi (lgx xs (i + 1)) (lgx xs (i + 2))
  obtain ⟨q1, I1, J1, R1⟩ := h1
  obtain rfl : q1 = 107 := e1
  refine mm_T.seg (f' := (913, [some (.retAddr 0), some (.ref 1), some (.ref 62), some (.int i)], [.int (i + 1), .retAddr 0, .ref 1])) (h' := (107, I, J, R)) 5 rfl ?_
  refine mm_T.guard (y := ((914, [some (.retAddr 0), some (.ref 1), some (.ref 62), some (.int i)], [.int (lgx xs (i + 1)), .ref 1]), (107, I, J, R))) rfl g.2.1 ?_
  refine mm_T.seg (f' := (918, [some (.retAddr 0), some (.ref 1), some (.ref 62), some (.int i)], [.int (i + 2), .retAddr 0, .int (lgx xs (i + 1)), .ref 1])) (h' := (107, I, J, R)) 4 rfl ?_
  refine mm_T.guard (y := ((919, [some (.retAddr 0), some (.ref 1), some (.ref 62), some (.int i)], [.int (lgx xs (i + 2)), .int (lgx xs (i + 1)), .ref 1]), (107, I, J, R))) rfl g.2.2.1 ?_
  refine mm_T.call (d := 999) (t := 185) (as := [.ref 1, .int (lgx xs (i + 1)), .int (lgx xs (i + 2))]) (f' := (922, [some (.retAddr 0), some (.ref 1), some (.ref 62), some (.int i)], [])) rfl (T1.deep (by decide)) (fun v h hq => ?_)
  obtain ⟨rfl, rfl⟩ := hq
  refine mm_T.seg (f' := (927, [some (.retAddr 0), some (.ref 1), some (.ref 62), some (.int i)], [.int (i + 1), .retAddr 0, .ref 62, .int x])) (h' := (107, I1, J1, R1)) 5 rfl ?_
  refine mm_T.guard (y := ((928, [some (.retAddr 0), some (.ref 1), some (.ref 62), some (.int i)], [.int (lgx xs (i + 1)), .ref 62, .int x]), (107, I1, J1, R1))) rfl g.2.1 ?_
  refine mm_T.seg (f' := (932, [some (.retAddr 0), some (.ref 1), some (.ref 62), some (.int i)], [.int (i + 2), .retAddr 0, .int (lgx xs (i + 1)), .ref 62, .int x])) (h' := (107, I1, J1, R1)) 4 rfl ?_
  refine mm_T.guard (y := ((933, [some (.retAddr 0), some (.ref 1), some (.ref 62), some (.int i)], [.int (lgx xs (i + 2)), .int (lgx xs (i + 1)), .ref 62, .int x]), (107, I1, J1, R1))) rfl g.2.2.1 ?_
  refine mm_T.call (d := 999) (t := 306) (as := [.ref 62, .int (lgx xs (i + 1)), .int (lgx xs (i + 2))]) (f' := (936, [some (.retAddr 0), some (.ref 1), some (.ref 62), some (.int i)], [.int x])) rfl (T2.deep (by decide)) (fun v h hq => ?_)
  obtain ⟨rfl, rfl⟩ := hq
  exact mm_T.br (c := x = x) (a := ((1427, [some (.retAddr 0), some (.ref 1), some (.ref 62), some (.int i)], []), h)) (b := ((939, [some (.retAddr 0), some (.ref 1), some (.ref 62), some (.int i)], []), h)) rfl (fun _ => k _ hI) (fun hn => absurd rfl hn)
set_option maxRecDepth 100000 in
set_option maxHeartbeats 4000000 in
theorem L_singe (g : okI L i) (ht : 0 ≤ t ∧ t < 600) (hi : INV t h) (k : ∀ h2, INV (t + 1) h2 → mm_T (some (L, xs)) 1000 350 (1427, [some (.retAddr 0), some (.ref 1), some (.ref 62), some (.int i)], []) h2 Q) : mm_T (some (L, xs)) 1000 350 (941, [some (.retAddr 0), some (.ref 1), some (.ref 62), some (.int i)], []) h Q := by
  obtain ⟨I, J, R, rfl⟩ := INV_h hi
  obtain ⟨x, h1, h2, T1, T2, e1, hI⟩ := C_singe ht hi (lgx xs (i + 1))
  obtain ⟨q1, I1, J1, R1⟩ := h1
  obtain rfl : q1 = 107 := e1
  refine mm_T.seg (f' := (946, [some (.retAddr 0), some (.ref 1), some (.ref 62), some (.int i)], [.int (i + 1), .retAddr 0, .ref 1])) (h' := (107, I, J, R)) 5 rfl ?_
  refine mm_T.guard (y := ((947, [some (.retAddr 0), some (.ref 1), some (.ref 62), some (.int i)], [.int (lgx xs (i + 1)), .ref 1]), (107, I, J, R))) rfl g.2.1 ?_
  refine mm_T.call (d := 999) (t := 186) (as := [.ref 1, .int (lgx xs (i + 1))]) (f' := (950, [some (.retAddr 0), some (.ref 1), some (.ref 62), some (.int i)], [])) rfl (T1.deep (by decide)) (fun v h hq => ?_)
  obtain ⟨rfl, rfl⟩ := hq
  refine mm_T.seg (f' := (955, [some (.retAddr 0), some (.ref 1), some (.ref 62), some (.int i)], [.int (i + 1), .retAddr 0, .ref 62, .int x])) (h' := (107, I1, J1, R1)) 5 rfl ?_
  refine mm_T.guard (y := ((956, [some (.retAddr 0), some (.ref 1), some (.ref 62), some (.int i)], [.int (lgx xs (i + 1)), .ref 62, .int x]), (107, I1, J1, R1))) rfl g.2.1 ?_
  refine mm_T.call (d := 999) (t := 307) (as := [.ref 62, .int (lgx xs (i + 1))]) (f' := (959, [some (.retAddr 0), some (.ref 1), some (.ref 62), some (.int i)], [.int x])) rfl (T2.deep (by decide)) (fun v h hq => ?_)
  obtain ⟨rfl, rfl⟩ := hq
  exact mm_T.br (c := x = x) (a := ((1427, [some (.retAddr 0), some (.ref 1), some (.ref 62), some (.int i)], []), h)) (b := ((962, [some (.retAddr 0), some (.ref 1), some (.ref 62), some (.int i)], []), h)) rfl (fun _ => k _ hI) (fun hn => absurd rfl hn)
set_option maxRecDepth 100000 in
set_option maxHeartbeats 4000000 in
theorem L_odds (g : okI L i) (ht : 0 ≤ t ∧ t < 600) (hi : INV t h) (k : ∀ h2, INV (t + 1) h2 → mm_T (some (L, xs)) 1000 350 (1427, [some (.retAddr 0), some (.ref 1), some (.ref 62), some (.int i)], []) h2 Q) : mm_T (some (L, xs)) 1000 350 (964, [some (.retAddr 0), some (.ref 1), some (.ref 62), some (.int i)], []) h Q := by
  obtain ⟨I, J, R, rfl⟩ := INV_h hi
  obtain ⟨x, h1, h2, T1, T2, e1, hI⟩ := C_odds ht hi (lgx xs (i + 1)) (lgx xs (i + 2)) (lgx xs (i + 3))
  obtain ⟨q1, I1, J1, R1⟩ := h1
  obtain rfl : q1 = 107 := e1
  refine mm_T.seg (f' := (969, [some (.retAddr 0), some (.ref 1), some (.ref 62), some (.int i)], [.int (i + 1), .retAddr 0, .ref 1])) (h' := (107, I, J, R)) 5 rfl ?_
  refine mm_T.guard (y := ((970, [some (.retAddr 0), some (.ref 1), some (.ref 62), some (.int i)], [.int (lgx xs (i + 1)), .ref 1]), (107, I, J, R))) rfl g.2.1 ?_
  refine mm_T.seg (f' := (974, [some (.retAddr 0), some (.ref 1), some (.ref 62), some (.int i)], [.int (i + 2), .retAddr 0, .int (lgx xs (i + 1)), .ref 1])) (h' := (107, I, J, R)) 4 rfl ?_
  refine mm_T.guard (y := ((975, [some (.retAddr 0), some (.ref 1), some (.ref 62), some (.int i)], [.int (lgx xs (i + 2)), .int (lgx xs (i + 1)), .ref 1]), (107, I, J, R))) rfl g.2.2.1 ?_
  refine mm_T.seg (f' := (979, [some (.retAddr 0), some (.ref 1), some (.ref 62), some (.int i)], [.int (i + 3), .retAddr 0, .int (lgx xs (i + 2)), .int (lgx xs (i + 1)), .ref 1])) (h' := (107, I, J, R)) 4 rfl ?_
  refine mm_T.guard (y := ((980, [some (.retAddr 0), some (.ref 1), some (.ref 62), some (.int i)], [.int (lgx xs (i + 3)), .int (lgx xs (i + 2)), .int (lgx xs (i + 1)), .ref 1]), (107, I, J, R))) rfl g.2.2.2.1 ?_
  refine mm_T.call (d := 999) (t := 187) (as := [.ref 1, .int (lgx xs (i + 1)), .int (lgx xs (i + 2)), .int (lgx xs (i + 3))]) (f' := (983, [some (.retAddr 0), some (.ref 1), some (.ref 62), some (.int i)], [])) rfl (T1.deep (by decide)) (fun v h hq => ?_)
  obtain ⟨rfl, rfl⟩ := hq
  refine mm_T.seg (f' := (988, [some (.retAddr 0), some (.ref 1), some (.ref 62), some (.int i)], [.int (i + 1), .retAddr 0, .ref 62, .int x])) (h' := (107, I1, J1, R1)) 5 rfl ?_
  refine mm_T.guard (y := ((989, [some (.retAddr 0), some (.ref 1), some (.ref 62), some (.int i)], [.int (lgx xs (i + 1)), .ref 62, .int x]), (107, I1, J1, R1))) rfl g.2.1 ?_
  refine mm_T.seg (f' := (993, [some (.retAddr 0), some (.ref 1), some (.ref 62), some (.int i)], [.int (i + 2), .retAddr 0, .int (lgx xs (i + 1)), .ref 62, .int x])) (h' := (107, I1, J1, R1)) 4 rfl ?_
  refine mm_T.guard (y := ((994, [some (.retAddr 0), some (.ref 1), some (.ref 62), some (.int i)], [.int (lgx xs (i + 2)), .int (lgx xs (i + 1)), .ref 62, .int x]), (107, I1, J1, R1))) rfl g.2.2.1 ?_
  refine mm_T.seg (f' := (998, [some (.retAddr 0), some (.ref 1), some (.ref 62), some (.int i)], [.int (i + 3), .retAddr 0, .int (lgx xs (i + 2)), .int (lgx xs (i + 1)), .ref 62, .int x])) (h' := (107, I1, J1, R1)) 4 rfl ?_
  refine mm_T.guard (y := ((999, [some (.retAddr 0), some (.ref 1), some (.ref 62), some (.int i)], [.int (lgx xs (i + 3)), .int (lgx xs (i + 2)), .int (lgx xs (i + 1)), .ref 62, .int x]), (107, I1, J1, R1))) rfl g.2.2.2.1 ?_
  refine mm_T.call (d := 999) (t := 310) (as := [.ref 62, .int (lgx xs (i + 1)), .int (lgx xs (i + 2)), .int (lgx xs (i + 3))]) (f' := (1002, [some (.retAddr 0), some (.ref 1), some (.ref 62), some (.int i)], [.int x])) rfl (T2.deep (by decide)) (fun v h hq => ?_)
  obtain ⟨rfl, rfl⟩ := hq
  exact mm_T.br (c := x = x) (a := ((1427, [some (.retAddr 0), some (.ref 1), some (.ref 62), some (.int i)], []), h)) (b := ((1005, [some (.retAddr 0), some (.ref 1), some (.ref 62), some (.int i)], []), h)) rfl (fun _ => k _ hI) (fun hn => absurd rfl hn)
set_option maxRecDepth 100000 in
set_option maxHeartbeats 4000000 in
theorem L_over (g : okI L i) (ht : 0 ≤ t ∧ t < 600) (hi : INV t h) (k : ∀ h2, INV (t + 1) h2 → mm_T (some (L, xs)) 1000 350 (1427, [some (.retAddr 0), some (.ref 1), some (.ref 62), some (.int i)], []) h2 Q) : mm_T (some (L, xs)) 1000 350 (1007, [some (.retAddr 0), some (.ref 1), some (.ref 62), some (.int i)], []) h Q := by
  obtain ⟨I, J, R, rfl⟩ := INV_h hi
  obtain ⟨x, h1, h2, T1, T2, e1, hI⟩ := C_over ht hi 
  obtain ⟨q1, I1, J1, R1⟩ := h1
  obtain rfl : q1 = 107 := e1
  refine mm_T.seg (f' := (1008, [some (.retAddr 0), some (.ref 1), some (.ref 62), some (.int i)], [.ref 1])) (h' := (107, I, J, R)) 1 rfl ?_
  refine mm_T.call (d := 999) (t := 188) (as := [.ref 1]) (f' := (1011, [some (.retAddr 0), some (.ref 1), some (.ref 62), some (.int i)], [])) rfl (T1.deep (by decide)) (fun v h hq => ?_)
  obtain ⟨rfl, rfl⟩ := hq
  refine mm_T.seg (f' := (1012, [some (.retAddr 0), some (.ref 1), some (.ref 62), some (.int i)], [.ref 62, .int x])) (h' := (107, I1, J1, R1)) 1 rfl ?_
  refine mm_T.call (d := 999) (t := 311) (as := [.ref 62]) (f' := (1015, [some (.retAddr 0), some (.ref 1), some (.ref 62), some (.int i)], [.int x])) rfl (T2.deep (by decide)) (fun v h hq => ?_)
  obtain ⟨rfl, rfl⟩ := hq
  exact mm_T.br (c := x = x) (a := ((1427, [some (.retAddr 0), some (.ref 1), some (.ref 62), some (.int i)], []), h)) (b := ((1018, [some (.retAddr 0), some (.ref 1), some (.ref 62), some (.int i)], []), h)) rfl (fun _ => k _ hI) (fun hn => absurd rfl hn)
set_option maxRecDepth 100000 in
set_option maxHeartbeats 4000000 in
theorem L_left (g : okI L i) (ht : 0 ≤ t ∧ t < 600) (hi : INV t h) (k : ∀ h2, INV (t + 1) h2 → mm_T (some (L, xs)) 1000 350 (1427, [some (.retAddr 0), some (.ref 1), some (.ref 62), some (.int i)], []) h2 Q) : mm_T (some (L, xs)) 1000 350 (1020, [some (.retAddr 0), some (.ref 1), some (.ref 62), some (.int i)], []) h Q := by
  obtain ⟨I, J, R, rfl⟩ := INV_h hi
  obtain ⟨x, h1, h2, T1, T2, e1, hI⟩ := C_left ht hi 
  obtain ⟨q1, I1, J1, R1⟩ := h1
  obtain rfl : q1 = 107 := e1
  refine mm_T.seg (f' := (1021, [some (.retAddr 0), some (.ref 1), some (.ref 62), some (.int i)], [.ref 1])) (h' := (107, I, J, R)) 1 rfl ?_
  refine mm_T.call (d := 999) (t := 189) (as := [.ref 1]) (f' := (1024, [some (.retAddr 0), some (.ref 1), some (.ref 62), some (.int i)], [])) rfl (T1.deep (by decide)) (fun v h hq => ?_)
  obtain ⟨rfl, rfl⟩ := hq
  refine mm_T.seg (f' := (1025, [some (.retAddr 0), some (.ref 1), some (.ref 62), some (.int i)], [.ref 62, .int x])) (h' := (107, I1, J1, R1)) 1 rfl ?_
  refine mm_T.call (d := 999) (t := 312) (as := [.ref 62]) (f' := (1028, [some (.retAddr 0), some (.ref 1), some (.ref 62), some (.int i)], [.int x])) rfl (T2.deep (by decide)) (fun v h hq => ?_)
  obtain ⟨rfl, rfl⟩ := hq
  exact mm_T.br (c := x = x) (a := ((1427, [some (.retAddr 0), some (.ref 1), some (.ref 62), some (.int i)], []), h)) (b := ((1031, [some (.retAddr 0), some (.ref 1), some (.ref 62), some (.int i)], []), h)) rfl (fun _ => k _ hI) (fun hn => absurd rfl hn)
set_option maxRecDepth 100000 in
set_option maxHeartbeats 4000000 in
theorem L_pulled (g : okI L i) (ht : 0 ≤ t ∧ t < 600) (hi : INV t h) (k : ∀ h2, INV (t + 1) h2 → mm_T (some (L, xs)) 1000 350 (1427, [some (.retAddr 0), some (.ref 1), some (.ref 62), some (.int i)], []) h2 Q) : mm_T (some (L, xs)) 1000 350 (1033, [some (.retAddr 0), some (.ref 1), some (.ref 62), some (.int i)], []) h Q := by
  obtain ⟨I, J, R, rfl⟩ := INV_h hi
  obtain ⟨x, h1, h2, T1, T2, e1, hI⟩ := C_pulled ht hi 
  obtain ⟨q1, I1, J1, R1⟩ := h1
  obtain rfl : q1 = 107 := e1
  refine mm_T.seg (f' := (1034, [some (.retAddr 0), some (.ref 1), some (.ref 62), some (.int i)], [.ref 1])) (h' := (107, I, J, R)) 1 rfl ?_
  refine mm_T.call (d := 999) (t := 190) (as := [.ref 1]) (f' := (1037, [some (.retAddr 0), some (.ref 1), some (.ref 62), some (.int i)], [])) rfl (T1.deep (by decide)) (fun v h hq => ?_)
  obtain ⟨rfl, rfl⟩ := hq
  refine mm_T.seg (f' := (1038, [some (.retAddr 0), some (.ref 1), some (.ref 62), some (.int i)], [.ref 62, .int x])) (h' := (107, I1, J1, R1)) 1 rfl ?_
  refine mm_T.call (d := 999) (t := 313) (as := [.ref 62]) (f' := (1041, [some (.retAddr 0), some (.ref 1), some (.ref 62), some (.int i)], [.int x])) rfl (T2.deep (by decide)) (fun v h hq => ?_)
  obtain ⟨rfl, rfl⟩ := hq
  exact mm_T.br (c := x = x) (a := ((1427, [some (.retAddr 0), some (.ref 1), some (.ref 62), some (.int i)], []), h)) (b := ((1044, [some (.retAddr 0), some (.ref 1), some (.ref 62), some (.int i)], []), h)) rfl (fun _ => k _ hI) (fun hn => absurd rfl hn)
set_option maxRecDepth 100000 in
set_option maxHeartbeats 4000000 in
theorem L_hottest (g : okI L i) (ht : 0 ≤ t ∧ t < 600) (hi : INV t h) (k : ∀ h2, INV (t + 1) h2 → mm_T (some (L, xs)) 1000 350 (1427, [some (.retAddr 0), some (.ref 1), some (.ref 62), some (.int i)], []) h2 Q) : mm_T (some (L, xs)) 1000 350 (1046, [some (.retAddr 0), some (.ref 1), some (.ref 62), some (.int i)], []) h Q := by
  obtain ⟨I, J, R, rfl⟩ := INV_h hi
  obtain ⟨x, h1, h2, T1, T2, e1, hI⟩ := C_hottest ht hi 
  obtain ⟨q1, I1, J1, R1⟩ := h1
  obtain rfl : q1 = 107 := e1
  refine mm_T.seg (f' := (1047, [some (.retAddr 0), some (.ref 1), some (.ref 62), some (.int i)], [.ref 1])) (h' := (107, I, J, R)) 1 rfl ?_
  refine mm_T.call (d := 999) (t := 191) (as := [.ref 1]) (f' := (1050, [some (.retAddr 0), some (.ref 1), some (.ref 62), some (.int i)], [])) rfl (T1.deep (by decide)) (fun v h hq => ?_)
  obtain ⟨rfl, rfl⟩ := hq
  refine mm_T.seg (f' := (1051, [some (.retAddr 0), some (.ref 1), some (.ref 62), some (.int i)], [.ref 62, .int x])) (h' := (107, I1, J1, R1)) 1 rfl ?_
  refine mm_T.call (d := 999) (t := 314) (as := [.ref 62]) (f' := (1054, [some (.retAddr 0), some (.ref 1), some (.ref 62), some (.int i)], [.int x])) rfl (T2.deep (by decide)) (fun v h hq => ?_)
  obtain ⟨rfl, rfl⟩ := hq
  exact mm_T.br (c := x = x) (a := ((1427, [some (.retAddr 0), some (.ref 1), some (.ref 62), some (.int i)], []), h)) (b := ((1057, [some (.retAddr 0), some (.ref 1), some (.ref 62), some (.int i)], []), h)) rfl (fun _ => k _ hI) (fun hn => absurd rfl hn)
set_option maxRecDepth 100000 in
set_option maxHeartbeats 4000000 in
theorem L_law (g : okI L i) (ht : 0 ≤ t ∧ t < 600) (hi : INV t h) (k : ∀ h2, INV (t + 1) h2 → mm_T (some (L, xs)) 1000 350 (1427, [some (.retAddr 0), some (.ref 1), some (.ref 62), some (.int i)], []) h2 Q) : mm_T (some (L, xs)) 1000 350 (1059, [some (.retAddr 0), some (.ref 1), some (.ref 62), some (.int i)], []) h Q := by
  obtain ⟨I, J, R, rfl⟩ := INV_h hi
  obtain ⟨x, h1, h2, T1, T2, e1, hI⟩ := C_law ht hi (lgx xs (i + 1))
  obtain ⟨q1, I1, J1, R1⟩ := h1
  obtain rfl : q1 = 107 := e1
  refine mm_T.seg (f' := (1064, [some (.retAddr 0), some (.ref 1), some (.ref 62), some (.int i)], [.int (i + 1), .retAddr 0, .ref 1])) (h' := (107, I, J, R)) 5 rfl ?_
  refine mm_T.guard (y := ((1065, [some (.retAddr 0), some (.ref 1), some (.ref 62), some (.int i)], [.int (lgx xs (i + 1)), .ref 1]), (107, I, J, R))) rfl g.2.1 ?_
  refine mm_T.call (d := 999) (t := 192) (as := [.ref 1, .int (lgx xs (i + 1))]) (f' := (1068, [some (.retAddr 0), some (.ref 1), some (.ref 62), some (.int i)], [])) rfl (T1.deep (by decide)) (fun v h hq => ?_)
  obtain ⟨rfl, rfl⟩ := hq
  refine mm_T.seg (f' := (1073, [some (.retAddr 0), some (.ref 1), some (.ref 62), some (.int i)], [.int (i + 1), .retAddr 0, .ref 62, .int x])) (h' := (107, I1, J1, R1)) 5 rfl ?_
  refine mm_T.guard (y := ((1074, [some (.retAddr 0), some (.ref 1), some (.ref 62), some (.int i)], [.int (lgx xs (i + 1)), .ref 62, .int x]), (107, I1, J1, R1))) rfl g.2.1 ?_
  refine mm_T.call (d := 999) (t := 315) (as := [.ref 62, .int (lgx xs (i + 1))]) (f' := (1077, [some (.retAddr 0), some (.ref 1), some (.ref 62), some (.int i)], [.int x])) rfl (T2.deep (by decide)) (fun v h hq => ?_)
  obtain ⟨rfl, rfl⟩ := hq
  exact mm_T.br (c := x = x) (a := ((1427, [some (.retAddr 0), some (.ref 1), some (.ref 62), some (.int i)], []), h)) (b := ((1080, [some (.retAddr 0), some (.ref 1), some (.ref 62), some (.int i)], []), h)) rfl (fun _ => k _ hI) (fun hn => absurd rfl hn)
set_option maxRecDepth 100000 in
set_option maxHeartbeats 4000000 in
theorem L_lies (g : okI L i) (ht : 0 ≤ t ∧ t < 600) (hi : INV t h) (k : ∀ h2, INV (t + 1) h2 → mm_T (some (L, xs)) 1000 350 (1427, [some (.retAddr 0), some (.ref 1), some (.ref 62), some (.int i)], []) h2 Q) : mm_T (some (L, xs)) 1000 350 (1082, [some (.retAddr 0), some (.ref 1), some (.ref 62), some (.int i)], []) h Q := by
  obtain ⟨I, J, R, rfl⟩ := INV_h hi
  obtain ⟨x, h1, h2, T1, T2, e1, hI⟩ := C_lies ht hi (lgx xs (i + 1))
  obtain ⟨q1, I1, J1, R1⟩ := h1
  obtain rfl : q1 = 107 := e1
  refine mm_T.seg (f' := (1087, [some (.retAddr 0), some (.ref 1), some (.ref 62), some (.int i)], [.int (i + 1), .retAddr 0, .ref 1])) (h' := (107, I, J, R)) 5 rfl ?_
  refine mm_T.guard (y := ((1088, [some (.retAddr 0), some (.ref 1), some (.ref 62), some (.int i)], [.int (lgx xs (i + 1)), .ref 1]), (107, I, J, R))) rfl g.2.1 ?_
  refine mm_T.call (d := 999) (t := 193) (as := [.ref 1, .int (lgx xs (i + 1))]) (f' := (1091, [some (.retAddr 0), some (.ref 1), some (.ref 62), some (.int i)], [])) rfl (T1.deep (by decide)) (fun v h hq => ?_)
  obtain ⟨rfl, rfl⟩ := hq
  refine mm_T.seg (f' := (1096, [some (.retAddr 0), some (.ref 1), some (.ref 62), some (.int i)], [.int (i + 1), .retAddr 0, .ref 62, .int x])) (h' := (107, I1, J1, R1)) 5 rfl ?_
  refine mm_T.guard (y := ((1097, [some (.retAddr 0), some (.ref 1), some (.ref 62), some (.int i)], [.int (lgx xs (i + 1)), .ref 62, .int x]), (107, I1, J1, R1))) rfl g.2.1 ?_
  refine mm_T.call (d := 999) (t := 316) (as := [.ref 62, .int (lgx xs (i + 1))]) (f' := (1100, [some (.retAddr 0), some (.ref 1), some (.ref 62), some (.int i)], [.int x])) rfl (T2.deep (by decide)) (fun v h hq => ?_)
  obtain ⟨rfl, rfl⟩ := hq
  exact mm_T.br (c := x = x) (a := ((1427, [some (.retAddr 0), some (.ref 1), some (.ref 62), some (.int i)], []), h)) (b := ((1103, [some (.retAddr 0), some (.ref 1), some (.ref 62), some (.int i)], []), h)) rfl (fun _ => k _ hI) (fun hn => absurd rfl hn)
set_option maxRecDepth 100000 in
set_option maxHeartbeats 4000000 in
theorem L_passed (g : okI L i) (ht : 0 ≤ t ∧ t < 600) (hi : INV t h) (k : ∀ h2, INV (t + 1) h2 → mm_T (some (L, xs)) 1000 350 (1427, [some (.retAddr 0), some (.ref 1), some (.ref 62), some (.int i)], []) h2 Q) : mm_T (some (L, xs)) 1000 350 (1105, [some (.retAddr 0), some (.ref 1), some (.ref 62), some (.int i)], []) h Q := by
  obtain ⟨I, J, R, rfl⟩ := INV_h hi
  by_cases hx : lgx xs (i + 3) = 0
  · obtain ⟨x, h1, h2, T1, T2, e1, hI⟩ := C_passed ht hi (lgx xs (i + 1)) (lgx xs (i + 2)) (0) (Or.inl rfl)
    obtain ⟨q1, I1, J1, R1⟩ := h1
    obtain rfl : q1 = 107 := e1
    refine mm_T.seg (f' := (1110, [some (.retAddr 0), some (.ref 1), some (.ref 62), some (.int i)], [.int (i + 1), .retAddr 0, .ref 1])) (h' := (107, I, J, R)) 5 rfl ?_
    refine mm_T.guard (y := ((1111, [some (.retAddr 0), some (.ref 1), some (.ref 62), some (.int i)], [.int (lgx xs (i + 1)), .ref 1]), (107, I, J, R))) rfl g.2.1 ?_
    refine mm_T.seg (f' := (1115, [some (.retAddr 0), some (.ref 1), some (.ref 62), some (.int i)], [.int (i + 2), .retAddr 0, .int (lgx xs (i + 1)), .ref 1])) (h' := (107, I, J, R)) 4 rfl ?_
    refine mm_T.guard (y := ((1116, [some (.retAddr 0), some (.ref 1), some (.ref 62), some (.int i)], [.int (lgx xs (i + 2)), .int (lgx xs (i + 1)), .ref 1]), (107, I, J, R))) rfl g.2.2.1 ?_
    refine mm_T.seg (f' := (1120, [some (.retAddr 0), some (.ref 1), some (.ref 62), some (.int i)], [.int (i + 3), .retAddr 0, .int (lgx xs (i + 2)), .int (lgx xs (i + 1)), .ref 1])) (h' := (107, I, J, R)) 4 rfl ?_
    refine mm_T.guard (y := ((1121, [some (.retAddr 0), some (.ref 1), some (.ref 62), some (.int i)], [.int (lgx xs (i + 3)), .int (lgx xs (i + 2)), .int (lgx xs (i + 1)), .ref 1]), (107, I, J, R))) rfl g.2.2.2.1 ?_
    refine mm_T.br (c := lgx xs (i + 3) = 0) (a := ((1128, [some (.retAddr 0), some (.ref 1), some (.ref 62), some (.int i)], [.int (lgx xs (i + 2)), .int (lgx xs (i + 1)), .ref 1]), (107, I, J, R))) (b := ((1124, [some (.retAddr 0), some (.ref 1), some (.ref 62), some (.int i)], [.int (lgx xs (i + 2)), .int (lgx xs (i + 1)), .ref 1]), (107, I, J, R))) rfl (fun _ => ?_) (fun hx0 => absurd hx hx0)
    refine mm_T.seg (f' := (1129, [some (.retAddr 0), some (.ref 1), some (.ref 62), some (.int i)], [.int 0, .int (lgx xs (i + 2)), .int (lgx xs (i + 1)), .ref 1])) (h' := (107, I, J, R)) 1 rfl ?_
    refine mm_T.call (d := 999) (t := 194) (as := [.ref 1, .int (lgx xs (i + 1)), .int (lgx xs (i + 2)), .int 0]) (f' := (1132, [some (.retAddr 0), some (.ref 1), some (.ref 62), some (.int i)], [])) rfl (T1.deep (by decide)) (fun v h hq => ?_)
    obtain ⟨rfl, rfl⟩ := hq
    refine mm_T.seg (f' := (1137, [some (.retAddr 0), some (.ref 1), some (.ref 62), some (.int i)], [.int (i + 1), .retAddr 0, .ref 62, .int x])) (h' := (107, I1, J1, R1)) 5 rfl ?_
    refine mm_T.guard (y := ((1138, [some (.retAddr 0), some (.ref 1), some (.ref 62), some (.int i)], [.int (lgx xs (i + 1)), .ref 62, .int x]), (107, I1, J1, R1))) rfl g.2.1 ?_
    refine mm_T.seg (f' := (1142, [some (.retAddr 0), some (.ref 1), some (.ref 62), some (.int i)], [.int (i + 2), .retAddr 0, .int (lgx xs (i + 1)), .ref 62, .int x])) (h' := (107, I1, J1, R1)) 4 rfl ?_
    refine mm_T.guard (y := ((1143, [some (.retAddr 0), some (.ref 1), some (.ref 62), some (.int i)], [.int (lgx xs (i + 2)), .int (lgx xs (i + 1)), .ref 62, .int x]), (107, I1, J1, R1))) rfl g.2.2.1 ?_
    refine mm_T.seg (f' := (1147, [some (.retAddr 0), some (.ref 1), some (.ref 62), some (.int i)], [.int (i + 3), .retAddr 0, .int (lgx xs (i + 2)), .int (lgx xs (i + 1)), .ref 62, .int x])) (h' := (107, I1, J1, R1)) 4 rfl ?_
    refine mm_T.guard (y := ((1148, [some (.retAddr 0), some (.ref 1), some (.ref 62), some (.int i)], [.int (lgx xs (i + 3)), .int (lgx xs (i + 2)), .int (lgx xs (i + 1)), .ref 62, .int x]), (107, I1, J1, R1))) rfl g.2.2.2.1 ?_
    refine mm_T.br (c := lgx xs (i + 3) = 0) (a := ((1155, [some (.retAddr 0), some (.ref 1), some (.ref 62), some (.int i)], [.int (lgx xs (i + 2)), .int (lgx xs (i + 1)), .ref 62, .int x]), (107, I1, J1, R1))) (b := ((1151, [some (.retAddr 0), some (.ref 1), some (.ref 62), some (.int i)], [.int (lgx xs (i + 2)), .int (lgx xs (i + 1)), .ref 62, .int x]), (107, I1, J1, R1))) rfl (fun _ => ?_) (fun hx0 => absurd hx hx0)
    refine mm_T.seg (f' := (1156, [some (.retAddr 0), some (.ref 1), some (.ref 62), some (.int i)], [.int 0, .int (lgx xs (i + 2)), .int (lgx xs (i + 1)), .ref 62, .int x])) (h' := (107, I1, J1, R1)) 1 rfl ?_
    refine mm_T.call (d := 999) (t := 318) (as := [.ref 62, .int (lgx xs (i + 1)), .int (lgx xs (i + 2)), .int 0]) (f' := (1159, [some (.retAddr 0), some (.ref 1), some (.ref 62), some (.int i)], [.int x])) rfl (T2.deep (by decide)) (fun v h hq => ?_)
    obtain ⟨rfl, rfl⟩ := hq
    exact mm_T.br (c := x = x) (a := ((1427, [some (.retAddr 0), some (.ref 1), some (.ref 62), some (.int i)], []), h)) (b := ((1162, [some (.retAddr 0), some (.ref 1), some (.ref 62), some (.int i)], []), h)) rfl (fun _ => k _ hI) (fun hn => absurd rfl hn)
  · obtain ⟨x, h1, h2, T1, T2, e1, hI⟩ := C_passed ht hi (lgx xs (i + 1)) (lgx xs (i + 2)) (1) (Or.inr rfl)
    obtain ⟨q1, I1, J1, R1⟩ := h1
    obtain rfl : q1 = 107 := e1
    refine mm_T.seg (f' := (1110, [some (.retAddr 0), some (.ref 1), some (.ref 62), some (.int i)], [.int (i + 1), .retAddr 0, .ref 1])) (h' := (107, I, J, R)) 5 rfl ?_
    refine mm_T.guard (y := ((1111, [some (.retAddr 0), some (.ref 1), some (.ref 62), some (.int i)], [.int (lgx xs (i + 1)), .ref 1]), (107, I, J, R))) rfl g.2.1 ?_
    refine mm_T.seg (f' := (1115, [some (.retAddr 0), some (.ref 1), some (.ref 62), some (.int i)], [.int (i + 2), .retAddr 0, .int (lgx xs (i + 1)), .ref 1])) (h' := (107, I, J, R)) 4 rfl ?_
    refine mm_T.guard (y := ((1116, [some (.retAddr 0), some (.ref 1), some (.ref 62), some (.int i)], [.int (lgx xs (i + 2)), .int (lgx xs (i + 1)), .ref 1]), (107, I, J, R))) rfl g.2.2.1 ?_
    refine mm_T.seg (f' := (1120, [some (.retAddr 0), some (.ref 1), some (.ref 62), some (.int i)], [.int (i + 3), .retAddr 0, .int (lgx xs (i + 2)), .int (lgx xs (i + 1)), .ref 1])) (h' := (107, I, J, R)) 4 rfl ?_
    refine mm_T.guard (y := ((1121, [some (.retAddr 0), some (.ref 1), some (.ref 62), some (.int i)], [.int (lgx xs (i + 3)), .int (lgx xs (i + 2)), .int (lgx xs (i + 1)), .ref 1]), (107, I, J, R))) rfl g.2.2.2.1 ?_
    refine mm_T.br (c := lgx xs (i + 3) = 0) (a := ((1128, [some (.retAddr 0), some (.ref 1), some (.ref 62), some (.int i)], [.int (lgx xs (i + 2)), .int (lgx xs (i + 1)), .ref 1]), (107, I, J, R))) (b := ((1124, [some (.retAddr 0), some (.ref 1), some (.ref 62), some (.int i)], [.int (lgx xs (i + 2)), .int (lgx xs (i + 1)), .ref 1]), (107, I, J, R))) rfl (fun hx0 => absurd hx0 hx) (fun _ => ?_)
    refine mm_T.seg (f' := (1129, [some (.retAddr 0), some (.ref 1), some (.ref 62), some (.int i)], [.int 1, .int (lgx xs (i + 2)), .int (lgx xs (i + 1)), .ref 1])) (h' := (107, I, J, R)) 2 rfl ?_
    refine mm_T.call (d := 999) (t := 194) (as := [.ref 1, .int (lgx xs (i + 1)), .int (lgx xs (i + 2)), .int 1]) (f' := (1132, [some (.retAddr 0), some (.ref 1), some (.ref 62), some (.int i)], [])) rfl (T1.deep (by decide)) (fun v h hq => ?_)
    obtain ⟨rfl, rfl⟩ := hq
    refine mm_T.seg (f' := (1137, [some (.retAddr 0), some (.ref 1), some (.ref 62), some (.int i)], [.int (i + 1), .retAddr 0, .ref 62, .int x])) (h' := (107, I1, J1, R1)) 5 rfl ?_
    refine mm_T.guard (y := ((1138, [some (.retAddr 0), some (.ref 1), some (.ref 62), some (.int i)], [.int (lgx xs (i + 1)), .ref 62, .int x]), (107, I1, J1, R1))) rfl g.2.1 ?_
    refine mm_T.seg (f' := (1142, [some (.retAddr 0), some (.ref 1), some (.ref 62), some (.int i)], [.int (i + 2), .retAddr 0, .int (lgx xs (i + 1)), .ref 62, .int x])) (h' := (107, I1, J1, R1)) 4 rfl ?_
    refine mm_T.guard (y := ((1143, [some (.retAddr 0), some (.ref 1), some (.ref 62), some (.int i)], [.int (lgx xs (i + 2)), .int (lgx xs (i + 1)), .ref 62, .int x]), (107, I1, J1, R1))) rfl g.2.2.1 ?_
    refine mm_T.seg (f' := (1147, [some (.retAddr 0), some (.ref 1), some (.ref 62), some (.int i)], [.int (i + 3), .retAddr 0, .int (lgx xs (i + 2)), .int (lgx xs (i + 1)), .ref 62, .int x])) (h' := (107, I1, J1, R1)) 4 rfl ?_
    refine mm_T.guard (y := ((1148, [some (.retAddr 0), some (.ref 1), some (.ref 62), some (.int i)], [.int (lgx xs (i + 3)), .int (lgx xs (i + 2)), .int (lgx xs (i + 1)), .ref 62, .int x]), (107, I1, J1, R1))) rfl g.2.2.2.1 ?_
    refine mm_T.br (c := lgx xs (i + 3) = 0) (a := ((1155, [some (.retAddr 0), some (.ref 1), some (.ref 62), some (.int i)], [.int (lgx xs (i + 2)), .int (lgx xs (i + 1)), .ref 62, .int x]), (107, I1, J1, R1))) (b := ((1151, [some (.retAddr 0), some (.ref 1), some (.ref 62), some (.int i)], [.int (lgx xs (i + 2)), .int (lgx xs (i + 1)), .ref 62, .int x]), (107, I1, J1, R1))) rfl (fun hx0 => absurd hx0 hx) (fun _ => ?_)
    refine mm_T.seg (f' := (1156, [some (.retAddr 0), some (.ref 1), some (.ref 62), some (.int i)], [.int 1, .int (lgx xs (i + 2)), .int (lgx xs (i + 1)), .ref 62, .int x])) (h' := (107, I1, J1, R1)) 2 rfl ?_
    refine mm_T.call (d := 999) (t := 318) (as := [.ref 62, .int (lgx xs (i + 1)), .int (lgx xs (i + 2)), .int 1]) (f' := (1159, [some (.retAddr 0), some (.ref 1), some (.ref 62), some (.int i)], [.int x])) rfl (T2.deep (by decide)) (fun v h hq => ?_)
    obtain ⟨rfl, rfl⟩ := hq
    exact mm_T.br (c := x = x) (a := ((1427, [some (.retAddr 0), some (.ref 1), some (.ref 62), some (.int i)], []), h)) (b := ((1162, [some (.retAddr 0), some (.ref 1), some (.ref 62), some (.int i)], []), h)) rfl (fun _ => k _ hI) (fun hn => absurd rfl hn)
set_option maxRecDepth 100000 in
set_option maxHeartbeats 4000000 in
theorem L_felt (g : okI L i) (ht : 0 ≤ t ∧ t < 600) (hi : INV t h) (k : ∀ h2, INV (t + 1) h2 → mm_T (some (L, xs)) 1000 350 (1427, [some (.retAddr 0), some (.ref 1), some (.ref 62), some (.int i)], []) h2 Q) : mm_T (some (L, xs)) 1000 350 (1164, [some (.retAddr 0), some (.ref 1), some (.ref 62), some (.int i)], []) h Q := by
  obtain ⟨I, J, R, rfl⟩ := INV_h hi
  by_cases hx : lgx xs (i + 3) = 0
  · obtain ⟨x, h1, h2, T1, T2, e1, hI⟩ := C_felt ht hi (lgx xs (i + 1)) (lgx xs (i + 2)) (0) (Or.inl rfl)
    obtain ⟨q1, I1, J1, R1⟩ := h1
    obtain rfl : q1 = 107 := e1
    refine mm_T.seg (f' := (1169, [some (.retAddr 0), some (.ref 1), some (.ref 62), some (.int i)], [.int (i + 1), .retAddr 0, .ref 1])) (h' := (107, I, J, R)) 5 rfl ?_
    refine mm_T.guard (y := ((1170, [some (.retAddr 0), some (.ref 1), some (.ref 62), some (.int i)], [.int (lgx xs (i + 1)), .ref 1]), (107, I, J, R))) rfl g.2.1 ?_
    refine mm_T.seg (f' := (1174, [some (.retAddr 0), some (.ref 1), some (.ref 62), some (.int i)], [.int (i + 2), .retAddr 0, .int (lgx xs (i + 1)), .ref 1])) (h' := (107, I, J, R)) 4 rfl ?_
    refine mm_T.guard (y := ((1175, [some (.retAddr 0), some (.ref 1), some (.ref 62), some (.int i)], [.int (lgx xs (i + 2)), .int (lgx xs (i + 1)), .ref 1]), (107, I, J, R))) rfl g.2.2.1 ?_
    refine mm_T.seg (f' := (1179, [some (.retAddr 0), some (.ref 1), some (.ref 62), some (.int i)], [.int (i + 3), .retAddr 0, .int (lgx xs (i + 2)), .int (lgx xs (i + 1)), .ref 1])) (h' := (107, I, J, R)) 4 rfl ?_
    refine mm_T.guard (y := ((1180, [some (.retAddr 0), some (.ref 1), some (.ref 62), some (.int i)], [.int (lgx xs (i + 3)), .int (lgx xs (i + 2)), .int (lgx xs (i + 1)), .ref 1]), (107, I, J, R))) rfl g.2.2.2.1 ?_
    refine mm_T.br (c := lgx xs (i + 3) = 0) (a := ((1187, [some (.retAddr 0), some (.ref 1), some (.ref 62), some (.int i)], [.int (lgx xs (i + 2)), .int (lgx xs (i + 1)), .ref 1]), (107, I, J, R))) (b := ((1183, [some (.retAddr 0), some (.ref 1), some (.ref 62), some (.int i)], [.int (lgx xs (i + 2)), .int (lgx xs (i + 1)), .ref 1]), (107, I, J, R))) rfl (fun _ => ?_) (fun hx0 => absurd hx hx0)
    refine mm_T.seg (f' := (1188, [some (.retAddr 0), some (.ref 1), some (.ref 62), some (.int i)], [.int 0, .int (lgx xs (i + 2)), .int (lgx xs (i + 1)), .ref 1])) (h' := (107, I, J, R)) 1 rfl ?_
    refine mm_T.call (d := 999) (t := 195) (as := [.ref 1, .int (lgx xs (i + 1)), .int (lgx xs (i + 2)), .int 0]) (f' := (1191, [some (.retAddr 0), some (.ref 1), some (.ref 62), some (.int i)], [])) rfl (T1.deep (by decide)) (fun v h hq => ?_)
    obtain ⟨rfl, rfl⟩ := hq
    refine mm_T.seg (f' := (1196, [some (.retAddr 0), some (.ref 1), some (.ref 62), some (.int i)], [.int (i + 1), .retAddr 0, .ref 62, .int x])) (h' := (107, I1, J1, R1)) 5 rfl ?_
    refine mm_T.guard (y := ((1197, [some (.retAddr 0), some (.ref 1), some (.ref 62), some (.int i)], [.int (lgx xs (i + 1)), .ref 62, .int x]), (107, I1, J1, R1))) rfl g.2.1 ?_
    refine mm_T.seg (f' := (1201, [some (.retAddr 0), some (.ref 1), some (.ref 62), some (.int i)], [.int (i + 2), .retAddr 0, .int (lgx xs (i + 1)), .ref 62, .int x])) (h' := (107, I1, J1, R1)) 4 rfl ?_
    refine mm_T.guard (y := ((1202, [some (.retAddr 0), some (.ref 1), some (.ref 62), some (.int i)], [.int (lgx xs (i + 2)), .int (lgx xs (i + 1)), .ref 62, .int x]), (107, I1, J1, R1))) rfl g.2.2.1 ?_
    refine mm_T.seg (f' := (1206, [some (.retAddr 0), some (.ref 1), some (.ref 62), some (.int i)], [.int (i + 3), .retAddr 0, .int (lgx xs (i + 2)), .int (lgx xs (i + 1)), .ref 62, .int x])) (h' := (107, I1, J1, R1)) 4 rfl ?_
    refine mm_T.guard (y := ((1207, [some (.retAddr 0), some (.ref 1), some (.ref 62), some (.int i)], [.int (lgx xs (i + 3)), .int (lgx xs (i + 2)), .int (lgx xs (i + 1)), .ref 62, .int x]), (107, I1, J1, R1))) rfl g.2.2.2.1 ?_
    refine mm_T.br (c := lgx xs (i + 3) = 0) (a := ((1214, [some (.retAddr 0), some (.ref 1), some (.ref 62), some (.int i)], [.int (lgx xs (i + 2)), .int (lgx xs (i + 1)), .ref 62, .int x]), (107, I1, J1, R1))) (b := ((1210, [some (.retAddr 0), some (.ref 1), some (.ref 62), some (.int i)], [.int (lgx xs (i + 2)), .int (lgx xs (i + 1)), .ref 62, .int x]), (107, I1, J1, R1))) rfl (fun _ => ?_) (fun hx0 => absurd hx hx0)
    refine mm_T.seg (f' := (1215, [some (.retAddr 0), some (.ref 1), some (.ref 62), some (.int i)], [.int 0, .int (lgx xs (i + 2)), .int (lgx xs (i + 1)), .ref 62, .int x])) (h' := (107, I1, J1, R1)) 1 rfl ?_
    refine mm_T.call (d := 999) (t := 319) (as := [.ref 62, .int (lgx xs (i + 1)), .int (lgx xs (i + 2)), .int 0]) (f' := (1218, [some (.retAddr 0), some (.ref 1), some (.ref 62), some (.int i)], [.int x])) rfl (T2.deep (by decide)) (fun v h hq => ?_)
    obtain ⟨rfl, rfl⟩ := hq
    exact mm_T.br (c := x = x) (a := ((1427, [some (.retAddr 0), some (.ref 1), some (.ref 62), some (.int i)], []), h)) (b := ((1221, [some (.retAddr 0), some (.ref 1), some (.ref 62), some (.int i)], []), h)) rfl (fun _ => k _ hI) (fun hn => absurd rfl hn)
  · obtain ⟨x, h1, h2, T1, T2, e1, hI⟩ := C_felt ht hi (lgx xs (i + 1)) (lgx xs (i + 2)) (1) (Or.inr rfl)
    obtain ⟨q1, I1, J1, R1⟩ := h1
    obtain rfl : q1 = 107 := e1
    refine mm_T.seg (f' := (1169, [some (.retAddr 0), some (.ref 1), some (.ref 62), some (.int i)], [.int (i + 1), .retAddr 0, .ref 1])) (h' := (107, I, J, R)) 5 rfl ?_
    refine mm_T.guard (y := ((1170, [some (.retAddr 0), some (.ref 1), some (.ref 62), some (.int i)], [.int (lgx xs (i + 1)), .ref 1]), (107, I, J, R))) rfl g.2.1 ?_
    refine mm_T.seg (f' := (1174, [some (.retAddr 0), some (.ref 1), some (.ref 62), some (.int i)], [.int (i + 2), .retAddr 0, .int (lgx xs (i + 1)), .ref 1])) (h' := (107, I, J, R)) 4 rfl ?_
    refine mm_T.guard (y := ((1175, [some (.retAddr 0), some (.ref 1), some (.ref 62), some (.int i)], [.int (lgx xs (i + 2)), .int (lgx xs (i + 1)), .ref 1]), (107, I, J, R))) rfl g.2.2.1 ?_
    refine mm_T.seg (f' := (1179, [some (.retAddr 0), some (.ref 1), some (.ref 62), some (.int i)], [.int (i + 3), .retAddr 0, .int (lgx xs (i + 2)), .int (lgx xs (i + 1)), .ref 1])) (h' := (107, I, J, R)) 4 rfl ?_
    refine mm_T.guard (y := ((1180, [some (.retAddr 0), some (.ref 1), some (.ref 62), some (.int i)], [.int (lgx xs (i + 3)), .int (lgx xs (i + 2)), .int (lgx xs (i + 1)), .ref 1]), (107, I, J, R))) rfl g.2.2.2.1 ?_
    refine mm_T.br (c := lgx xs (i + 3) = 0) (a := ((1187, [some (.retAddr 0), some (.ref 1), some (.ref 62), some (.int i)], [.int (lgx xs (i + 2)), .int (lgx xs (i + 1)), .ref 1]), (107, I, J, R))) (b := ((1183, [some (.retAddr 0), some (.ref 1), some (.ref 62), some (.int i)], [.int (lgx xs (i + 2)), .int (lgx xs (i + 1)), .ref 1]), (107, I, J, R))) rfl (fun hx0 => absurd hx0 hx) (fun _ => ?_)
    refine mm_T.seg (f' := (1188, [some (.retAddr 0), some (.ref 1), some (.ref 62), some (.int i)], [.int 1, .int (lgx xs (i + 2)), .int (lgx xs (i + 1)), .ref 1])) (h' := (107, I, J, R)) 2 rfl ?_
    refine mm_T.call (d := 999) (t := 195) (as := [.ref 1, .int (lgx xs (i + 1)), .int (lgx xs (i + 2)), .int 1]) (f' := (1191, [some (.retAddr 0), some (.ref 1), some (.ref 62), some (.int i)], [])) rfl (T1.deep (by decide)) (fun v h hq => ?_)
    obtain ⟨rfl, rfl⟩ := hq
    refine mm_T.seg (f' := (1196, [some (.retAddr 0), some (.ref 1), some (.ref 62), some (.int i)], [.int (i + 1), .retAddr 0, .ref 62, .int x])) (h' := (107, I1, J1, R1)) 5 rfl ?_
    refine mm_T.guard (y := ((1197, [some (.retAddr 0), some (.ref 1), some (.ref 62), some (.int i)], [.int (lgx xs (i + 1)), .ref 62, .int x]), (107, I1, J1, R1))) rfl g.2.1 ?_
    refine mm_T.seg (f' := (1201, [some (.retAddr 0), some (.ref 1), some (.ref 62), some (.int i)], [.int (i + 2), .retAddr 0, .int (lgx xs (i + 1)), .ref 62, .int x])) (h' := (107, I1, J1, R1)) 4 rfl ?_
    refine mm_T.guard (y := ((1202, [some (.retAddr 0), some (.ref 1), some (.ref 62), some (.int i)], [.int (lgx xs (i + 2)), .int (lgx xs (i + 1)), .ref 62, .int x]), (107, I1, J1, R1))) rfl g.2.2.1 ?_
    refine mm_T.seg (f' := (1206, [some (.retAddr 0), some (.ref 1), some (.ref 62), some (.int i)], [.int (i + 3), .retAddr 0, .int (lgx xs (i + 2)), .int (lgx xs (i + 1)), .ref 62, .int x])) (h' := (107, I1, J1, R1)) 4 rfl ?_
    refine mm_T.guard (y := ((1207, [some (.retAddr 0), some (.ref 1), some (.ref 62), some (.int i)], [.int (lgx xs (i + 3)), .int (lgx xs (i + 2)), .int (lgx xs (i + 1)), .ref 62, .int x]), (107, I1, J1, R1))) rfl g.2.2.2.1 ?_
    refine mm_T.br (c := lgx xs (i + 3) = 0) (a := ((1214, [some (.retAddr 0), some (.ref 1), some (.ref 62), some (.int i)], [.int (lgx xs (i + 2)), .int (lgx xs (i + 1)), .ref 62, .int x]), (107, I1, J1, R1))) (b := ((1210, [some (.retAddr 0), some (.ref 1), some (.ref 62), some (.int i)], [.int (lgx xs (i + 2)), .int (lgx xs (i + 1)), .ref 62, .int x]), (107, I1, J1, R1))) rfl (fun hx0 => absurd hx0 hx) (fun _ => ?_)
    refine mm_T.seg (f' := (1215, [some (.retAddr 0), some (.ref 1), some (.ref 62), some (.int i)], [.int 1, .int (lgx xs (i + 2)), .int (lgx xs (i + 1)), .ref 62, .int x])) (h' := (107, I1, J1, R1)) 2 rfl ?_
    refine mm_T.call (d := 999) (t := 319) (as := [.ref 62, .int (lgx xs (i + 1)), .int (lgx xs (i + 2)), .int 1]) (f' := (1218, [some (.retAddr 0), some (.ref 1), some (.ref 62), some (.int i)], [.int x])) rfl (T2.deep (by decide)) (fun v h hq => ?_)
    obtain ⟨rfl, rfl⟩ := hq
    exact mm_T.br (c := x = x) (a := ((1427, [some (.retAddr 0), some (.ref 1), some (.ref 62), some (.int i)], []), h)) (b := ((1221, [some (.retAddr 0), some (.ref 1), some (.ref 62), some (.int i)], []), h)) rfl (fun _ => k _ hI) (fun hn => absurd rfl hn)
set_option maxRecDepth 100000 in
set_option maxHeartbeats 4000000 in
theorem L_untell (g : okI L i) (ht : 0 ≤ t ∧ t < 600) (hi : INV t h) (k : ∀ h2, INV (t + 1) h2 → mm_T (some (L, xs)) 1000 350 (1427, [some (.retAddr 0), some (.ref 1), some (.ref 62), some (.int i)], []) h2 Q) : mm_T (some (L, xs)) 1000 350 (1223, [some (.retAddr 0), some (.ref 1), some (.ref 62), some (.int i)], []) h Q := by
  obtain ⟨I, J, R, rfl⟩ := INV_h hi
  obtain ⟨x, h1, h2, T1, T2, e1, hI⟩ := C_untell ht hi (lgx xs (i + 1))
  obtain ⟨q1, I1, J1, R1⟩ := h1
  obtain rfl : q1 = 107 := e1
  refine mm_T.seg (f' := (1228, [some (.retAddr 0), some (.ref 1), some (.ref 62), some (.int i)], [.int (i + 1), .retAddr 0, .ref 1])) (h' := (107, I, J, R)) 5 rfl ?_
  refine mm_T.guard (y := ((1229, [some (.retAddr 0), some (.ref 1), some (.ref 62), some (.int i)], [.int (lgx xs (i + 1)), .ref 1]), (107, I, J, R))) rfl g.2.1 ?_
  refine mm_T.call (d := 999) (t := 196) (as := [.ref 1, .int (lgx xs (i + 1))]) (f' := (1232, [some (.retAddr 0), some (.ref 1), some (.ref 62), some (.int i)], [])) rfl (T1.deep (by decide)) (fun v h hq => ?_)
  obtain ⟨rfl, rfl⟩ := hq
  refine mm_T.seg (f' := (1237, [some (.retAddr 0), some (.ref 1), some (.ref 62), some (.int i)], [.int (i + 1), .retAddr 0, .ref 62, .int x])) (h' := (107, I1, J1, R1)) 5 rfl ?_
  refine mm_T.guard (y := ((1238, [some (.retAddr 0), some (.ref 1), some (.ref 62), some (.int i)], [.int (lgx xs (i + 1)), .ref 62, .int x]), (107, I1, J1, R1))) rfl g.2.1 ?_
  refine mm_T.call (d := 999) (t := 320) (as := [.ref 62, .int (lgx xs (i + 1))]) (f' := (1241, [some (.retAddr 0), some (.ref 1), some (.ref 62), some (.int i)], [.int x])) rfl (T2.deep (by decide)) (fun v h hq => ?_)
  obtain ⟨rfl, rfl⟩ := hq
  exact mm_T.br (c := x = x) (a := ((1427, [some (.retAddr 0), some (.ref 1), some (.ref 62), some (.int i)], []), h)) (b := ((1244, [some (.retAddr 0), some (.ref 1), some (.ref 62), some (.int i)], []), h)) rfl (fun _ => k _ hI) (fun hn => absurd rfl hn)
set_option maxRecDepth 100000 in
set_option maxHeartbeats 4000000 in
theorem L_later (g : okI L i) (ht : 0 ≤ t ∧ t < 600) (hi : INV t h) (k : ∀ h2, INV (t + 1) h2 → mm_T (some (L, xs)) 1000 350 (1427, [some (.retAddr 0), some (.ref 1), some (.ref 62), some (.int i)], []) h2 Q) : mm_T (some (L, xs)) 1000 350 (1246, [some (.retAddr 0), some (.ref 1), some (.ref 62), some (.int i)], []) h Q := by
  obtain ⟨I, J, R, rfl⟩ := INV_h hi
  obtain ⟨x, h1, h2, T1, T2, e1, hI⟩ := C_later ht hi (lgx xs (i + 1))
  obtain ⟨q1, I1, J1, R1⟩ := h1
  obtain rfl : q1 = 107 := e1
  refine mm_T.seg (f' := (1251, [some (.retAddr 0), some (.ref 1), some (.ref 62), some (.int i)], [.int (i + 1), .retAddr 0, .ref 1])) (h' := (107, I, J, R)) 5 rfl ?_
  refine mm_T.guard (y := ((1252, [some (.retAddr 0), some (.ref 1), some (.ref 62), some (.int i)], [.int (lgx xs (i + 1)), .ref 1]), (107, I, J, R))) rfl g.2.1 ?_
  refine mm_T.call (d := 999) (t := 197) (as := [.ref 1, .int (lgx xs (i + 1))]) (f' := (1255, [some (.retAddr 0), some (.ref 1), some (.ref 62), some (.int i)], [])) rfl (T1.deep (by decide)) (fun v h hq => ?_)
  obtain ⟨rfl, rfl⟩ := hq
  refine mm_T.seg (f' := (1260, [some (.retAddr 0), some (.ref 1), some (.ref 62), some (.int i)], [.int (i + 1), .retAddr 0, .ref 62, .int x])) (h' := (107, I1, J1, R1)) 5 rfl ?_
  refine mm_T.guard (y := ((1261, [some (.retAddr 0), some (.ref 1), some (.ref 62), some (.int i)], [.int (lgx xs (i + 1)), .ref 62, .int x]), (107, I1, J1, R1))) rfl g.2.1 ?_
  refine mm_T.call (d := 999) (t := 321) (as := [.ref 62, .int (lgx xs (i + 1))]) (f' := (1264, [some (.retAddr 0), some (.ref 1), some (.ref 62), some (.int i)], [.int x])) rfl (T2.deep (by decide)) (fun v h hq => ?_)
  obtain ⟨rfl, rfl⟩ := hq
  exact mm_T.br (c := x = x) (a := ((1427, [some (.retAddr 0), some (.ref 1), some (.ref 62), some (.int i)], []), h)) (b := ((1267, [some (.retAddr 0), some (.ref 1), some (.ref 62), some (.int i)], []), h)) rfl (fun _ => k _ hI) (fun hn => absurd rfl hn)
set_option maxRecDepth 100000 in
set_option maxHeartbeats 4000000 in
theorem L_fits (g : okI L i) (ht : 0 ≤ t ∧ t < 600) (hi : INV t h) (k : ∀ h2, INV (t + 1) h2 → mm_T (some (L, xs)) 1000 350 (1427, [some (.retAddr 0), some (.ref 1), some (.ref 62), some (.int i)], []) h2 Q) : mm_T (some (L, xs)) 1000 350 (1269, [some (.retAddr 0), some (.ref 1), some (.ref 62), some (.int i)], []) h Q := by
  obtain ⟨I, J, R, rfl⟩ := INV_h hi
  obtain ⟨x, h1, h2, T1, T2, e1, hI⟩ := C_fits ht hi (lgx xs (i + 1))
  obtain ⟨q1, I1, J1, R1⟩ := h1
  obtain rfl : q1 = 107 := e1
  refine mm_T.seg (f' := (1274, [some (.retAddr 0), some (.ref 1), some (.ref 62), some (.int i)], [.int (i + 1), .retAddr 0, .ref 1])) (h' := (107, I, J, R)) 5 rfl ?_
  refine mm_T.guard (y := ((1275, [some (.retAddr 0), some (.ref 1), some (.ref 62), some (.int i)], [.int (lgx xs (i + 1)), .ref 1]), (107, I, J, R))) rfl g.2.1 ?_
  refine mm_T.call (d := 999) (t := 198) (as := [.ref 1, .int (lgx xs (i + 1))]) (f' := (1278, [some (.retAddr 0), some (.ref 1), some (.ref 62), some (.int i)], [])) rfl (T1.deep (by decide)) (fun v h hq => ?_)
  obtain ⟨rfl, rfl⟩ := hq
  refine mm_T.seg (f' := (1283, [some (.retAddr 0), some (.ref 1), some (.ref 62), some (.int i)], [.int (i + 1), .retAddr 0, .ref 62, .int x])) (h' := (107, I1, J1, R1)) 5 rfl ?_
  refine mm_T.guard (y := ((1284, [some (.retAddr 0), some (.ref 1), some (.ref 62), some (.int i)], [.int (lgx xs (i + 1)), .ref 62, .int x]), (107, I1, J1, R1))) rfl g.2.1 ?_
  refine mm_T.call (d := 999) (t := 324) (as := [.ref 62, .int (lgx xs (i + 1))]) (f' := (1287, [some (.retAddr 0), some (.ref 1), some (.ref 62), some (.int i)], [.int x])) rfl (T2.deep (by decide)) (fun v h hq => ?_)
  obtain ⟨rfl, rfl⟩ := hq
  exact mm_T.br (c := x = x) (a := ((1427, [some (.retAddr 0), some (.ref 1), some (.ref 62), some (.int i)], []), h)) (b := ((1290, [some (.retAddr 0), some (.ref 1), some (.ref 62), some (.int i)], []), h)) rfl (fun _ => k _ hI) (fun hn => absurd rfl hn)
set_option maxRecDepth 100000 in
set_option maxHeartbeats 4000000 in
theorem L_sure (g : okI L i) (ht : 0 ≤ t ∧ t < 600) (hi : INV t h) (k : ∀ h2, INV (t + 1) h2 → mm_T (some (L, xs)) 1000 350 (1427, [some (.retAddr 0), some (.ref 1), some (.ref 62), some (.int i)], []) h2 Q) : mm_T (some (L, xs)) 1000 350 (1292, [some (.retAddr 0), some (.ref 1), some (.ref 62), some (.int i)], []) h Q := by
  obtain ⟨I, J, R, rfl⟩ := INV_h hi
  obtain ⟨x, h1, h2, T1, T2, e1, hI⟩ := C_sure ht hi (lgx xs (i + 1)) (lgx xs (i + 2))
  obtain ⟨q1, I1, J1, R1⟩ := h1
  obtain rfl : q1 = 107 := e1
  refine mm_T.seg (f' := (1297, [some (.retAddr 0), some (.ref 1), some (.ref 62), some (.int i)], [.int (i + 1), .retAddr 0, .ref 1])) (h' := (107, I, J, R)) 5 rfl ?_
  refine mm_T.guard (y := ((1298, [some (.retAddr 0), some (.ref 1), some (.ref 62), some (.int i)], [.int (lgx xs (i + 1)), .ref 1]), (107, I, J, R))) rfl g.2.1 ?_
  refine mm_T.seg (f' := (1302, [some (.retAddr 0), some (.ref 1), some (.ref 62), some (.int i)], [.int (i + 2), .retAddr 0, .int (lgx xs (i + 1)), .ref 1])) (h' := (107, I, J, R)) 4 rfl ?_
  refine mm_T.guard (y := ((1303, [some (.retAddr 0), some (.ref 1), some (.ref 62), some (.int i)], [.int (lgx xs (i + 2)), .int (lgx xs (i + 1)), .ref 1]), (107, I, J, R))) rfl g.2.2.1 ?_
  refine mm_T.call (d := 999) (t := 199) (as := [.ref 1, .int (lgx xs (i + 1)), .int (lgx xs (i + 2))]) (f' := (1306, [some (.retAddr 0), some (.ref 1), some (.ref 62), some (.int i)], [])) rfl (T1.deep (by decide)) (fun v h hq => ?_)
  obtain ⟨rfl, rfl⟩ := hq
  refine mm_T.seg (f' := (1311, [some (.retAddr 0), some (.ref 1), some (.ref 62), some (.int i)], [.int (i + 1), .retAddr 0, .ref 62, .int x])) (h' := (107, I1, J1, R1)) 5 rfl ?_
  refine mm_T.guard (y := ((1312, [some (.retAddr 0), some (.ref 1), some (.ref 62), some (.int i)], [.int (lgx xs (i + 1)), .ref 62, .int x]), (107, I1, J1, R1))) rfl g.2.1 ?_
  refine mm_T.seg (f' := (1316, [some (.retAddr 0), some (.ref 1), some (.ref 62), some (.int i)], [.int (i + 2), .retAddr 0, .int (lgx xs (i + 1)), .ref 62, .int x])) (h' := (107, I1, J1, R1)) 4 rfl ?_
  refine mm_T.guard (y := ((1317, [some (.retAddr 0), some (.ref 1), some (.ref 62), some (.int i)], [.int (lgx xs (i + 2)), .int (lgx xs (i + 1)), .ref 62, .int x]), (107, I1, J1, R1))) rfl g.2.2.1 ?_
  refine mm_T.call (d := 999) (t := 325) (as := [.ref 62, .int (lgx xs (i + 1)), .int (lgx xs (i + 2))]) (f' := (1320, [some (.retAddr 0), some (.ref 1), some (.ref 62), some (.int i)], [.int x])) rfl (T2.deep (by decide)) (fun v h hq => ?_)
  obtain ⟨rfl, rfl⟩ := hq
  exact mm_T.br (c := x = x) (a := ((1427, [some (.retAddr 0), some (.ref 1), some (.ref 62), some (.int i)], []), h)) (b := ((1323, [some (.retAddr 0), some (.ref 1), some (.ref 62), some (.int i)], []), h)) rfl (fun _ => k _ hI) (fun hn => absurd rfl hn)
set_option maxRecDepth 100000 in
set_option maxHeartbeats 4000000 in
theorem L_ask (g : okI L i) (ht : 0 ≤ t ∧ t < 600) (hi : INV t h) (k : ∀ h2, INV (t + 1) h2 → mm_T (some (L, xs)) 1000 350 (1427, [some (.retAddr 0), some (.ref 1), some (.ref 62), some (.int i)], []) h2 Q) : mm_T (some (L, xs)) 1000 350 (1325, [some (.retAddr 0), some (.ref 1), some (.ref 62), some (.int i)], []) h Q := by
  obtain ⟨I, J, R, rfl⟩ := INV_h hi
  obtain ⟨x, h1, h2, T1, T2, e1, hI⟩ := C_ask ht hi (lgx xs (i + 1)) (lgx xs (i + 2))
  obtain ⟨q1, I1, J1, R1⟩ := h1
  obtain rfl : q1 = 107 := e1
  refine mm_T.seg (f' := (1330, [some (.retAddr 0), some (.ref 1), some (.ref 62), some (.int i)], [.int (i + 1), .retAddr 0, .ref 1])) (h' := (107, I, J, R)) 5 rfl ?_
  refine mm_T.guard (y := ((1331, [some (.retAddr 0), some (.ref 1), some (.ref 62), some (.int i)], [.int (lgx xs (i + 1)), .ref 1]), (107, I, J, R))) rfl g.2.1 ?_
  refine mm_T.seg (f' := (1335, [some (.retAddr 0), some (.ref 1), some (.ref 62), some (.int i)], [.int (i + 2), .retAddr 0, .int (lgx xs (i + 1)), .ref 1])) (h' := (107, I, J, R)) 4 rfl ?_
  refine mm_T.guard (y := ((1336, [some (.retAddr 0), some (.ref 1), some (.ref 62), some (.int i)], [.int (lgx xs (i + 2)), .int (lgx xs (i + 1)), .ref 1]), (107, I, J, R))) rfl g.2.2.1 ?_
  refine mm_T.call (d := 999) (t := 200) (as := [.ref 1, .int (lgx xs (i + 1)), .int (lgx xs (i + 2))]) (f' := (1339, [some (.retAddr 0), some (.ref 1), some (.ref 62), some (.int i)], [])) rfl (T1.deep (by decide)) (fun v h hq => ?_)
  obtain ⟨rfl, rfl⟩ := hq
  refine mm_T.seg (f' := (1344, [some (.retAddr 0), some (.ref 1), some (.ref 62), some (.int i)], [.int (i + 1), .retAddr 0, .ref 62, .int x])) (h' := (107, I1, J1, R1)) 5 rfl ?_
  refine mm_T.guard (y := ((1345, [some (.retAddr 0), some (.ref 1), some (.ref 62), some (.int i)], [.int (lgx xs (i + 1)), .ref 62, .int x]), (107, I1, J1, R1))) rfl g.2.1 ?_
  refine mm_T.seg (f' := (1349, [some (.retAddr 0), some (.ref 1), some (.ref 62), some (.int i)], [.int (i + 2), .retAddr 0, .int (lgx xs (i + 1)), .ref 62, .int x])) (h' := (107, I1, J1, R1)) 4 rfl ?_
  refine mm_T.guard (y := ((1350, [some (.retAddr 0), some (.ref 1), some (.ref 62), some (.int i)], [.int (lgx xs (i + 2)), .int (lgx xs (i + 1)), .ref 62, .int x]), (107, I1, J1, R1))) rfl g.2.2.1 ?_
  refine mm_T.call (d := 999) (t := 327) (as := [.ref 62, .int (lgx xs (i + 1)), .int (lgx xs (i + 2))]) (f' := (1353, [some (.retAddr 0), some (.ref 1), some (.ref 62), some (.int i)], [.int x])) rfl (T2.deep (by decide)) (fun v h hq => ?_)
  obtain ⟨rfl, rfl⟩ := hq
  exact mm_T.br (c := x = x) (a := ((1427, [some (.retAddr 0), some (.ref 1), some (.ref 62), some (.int i)], []), h)) (b := ((1356, [some (.retAddr 0), some (.ref 1), some (.ref 62), some (.int i)], []), h)) rfl (fun _ => k _ hI) (fun hn => absurd rfl hn)
set_option maxRecDepth 100000 in
set_option maxHeartbeats 4000000 in
theorem L_image (g : okI L i) (ht : 0 ≤ t ∧ t < 600) (hi : INV t h) (k : ∀ h2, INV (t + 1) h2 → mm_T (some (L, xs)) 1000 350 (1427, [some (.retAddr 0), some (.ref 1), some (.ref 62), some (.int i)], []) h2 Q) : mm_T (some (L, xs)) 1000 350 (1358, [some (.retAddr 0), some (.ref 1), some (.ref 62), some (.int i)], []) h Q := by
  obtain ⟨I, J, R, rfl⟩ := INV_h hi
  obtain ⟨x, h1, h2, T1, T2, e1, hI⟩ := C_image ht hi (lgx xs (i + 1))
  obtain ⟨q1, I1, J1, R1⟩ := h1
  obtain rfl : q1 = 107 := e1
  refine mm_T.seg (f' := (1363, [some (.retAddr 0), some (.ref 1), some (.ref 62), some (.int i)], [.int (i + 1), .retAddr 0, .ref 1])) (h' := (107, I, J, R)) 5 rfl ?_
  refine mm_T.guard (y := ((1364, [some (.retAddr 0), some (.ref 1), some (.ref 62), some (.int i)], [.int (lgx xs (i + 1)), .ref 1]), (107, I, J, R))) rfl g.2.1 ?_
  refine mm_T.call (d := 999) (t := 201) (as := [.ref 1, .int (lgx xs (i + 1))]) (f' := (1367, [some (.retAddr 0), some (.ref 1), some (.ref 62), some (.int i)], [])) rfl (T1.deep (by decide)) (fun v h hq => ?_)
  obtain ⟨rfl, rfl⟩ := hq
  refine mm_T.seg (f' := (1372, [some (.retAddr 0), some (.ref 1), some (.ref 62), some (.int i)], [.int (i + 1), .retAddr 0, .ref 62, .int x])) (h' := (107, I1, J1, R1)) 5 rfl ?_
  refine mm_T.guard (y := ((1373, [some (.retAddr 0), some (.ref 1), some (.ref 62), some (.int i)], [.int (lgx xs (i + 1)), .ref 62, .int x]), (107, I1, J1, R1))) rfl g.2.1 ?_
  refine mm_T.call (d := 999) (t := 329) (as := [.ref 62, .int (lgx xs (i + 1))]) (f' := (1376, [some (.retAddr 0), some (.ref 1), some (.ref 62), some (.int i)], [.int x])) rfl (T2.deep (by decide)) (fun v h hq => ?_)
  obtain ⟨rfl, rfl⟩ := hq
  exact mm_T.br (c := x = x) (a := ((1427, [some (.retAddr 0), some (.ref 1), some (.ref 62), some (.int i)], []), h)) (b := ((1379, [some (.retAddr 0), some (.ref 1), some (.ref 62), some (.int i)], []), h)) rfl (fun _ => k _ hI) (fun hn => absurd rfl hn)
set_option maxRecDepth 100000 in
set_option maxHeartbeats 4000000 in
theorem L_back (g : okI L i) (ht : 0 ≤ t ∧ t < 600) (hi : INV t h) (k : ∀ h2, INV (t + 1) h2 → mm_T (some (L, xs)) 1000 350 (1427, [some (.retAddr 0), some (.ref 1), some (.ref 62), some (.int i)], []) h2 Q) : mm_T (some (L, xs)) 1000 350 (1381, [some (.retAddr 0), some (.ref 1), some (.ref 62), some (.int i)], []) h Q := by
  obtain ⟨I, J, R, rfl⟩ := INV_h hi
  obtain ⟨x, h1, h2, T1, T2, e1, hI⟩ := C_back ht hi (lgx xs (i + 1))
  obtain ⟨q1, I1, J1, R1⟩ := h1
  obtain rfl : q1 = 107 := e1
  refine mm_T.seg (f' := (1386, [some (.retAddr 0), some (.ref 1), some (.ref 62), some (.int i)], [.int (i + 1), .retAddr 0, .ref 1])) (h' := (107, I, J, R)) 5 rfl ?_
  refine mm_T.guard (y := ((1387, [some (.retAddr 0), some (.ref 1), some (.ref 62), some (.int i)], [.int (lgx xs (i + 1)), .ref 1]), (107, I, J, R))) rfl g.2.1 ?_
  refine mm_T.call (d := 999) (t := 202) (as := [.ref 1, .int (lgx xs (i + 1))]) (f' := (1390, [some (.retAddr 0), some (.ref 1), some (.ref 62), some (.int i)], [])) rfl (T1.deep (by decide)) (fun v h hq => ?_)
  obtain ⟨rfl, rfl⟩ := hq
  refine mm_T.seg (f' := (1395, [some (.retAddr 0), some (.ref 1), some (.ref 62), some (.int i)], [.int (i + 1), .retAddr 0, .ref 62, .int x])) (h' := (107, I1, J1, R1)) 5 rfl ?_
  refine mm_T.guard (y := ((1396, [some (.retAddr 0), some (.ref 1), some (.ref 62), some (.int i)], [.int (lgx xs (i + 1)), .ref 62, .int x]), (107, I1, J1, R1))) rfl g.2.1 ?_
  refine mm_T.call (d := 999) (t := 330) (as := [.ref 62, .int (lgx xs (i + 1))]) (f' := (1399, [some (.retAddr 0), some (.ref 1), some (.ref 62), some (.int i)], [.int x])) rfl (T2.deep (by decide)) (fun v h hq => ?_)
  obtain ⟨rfl, rfl⟩ := hq
  exact mm_T.br (c := x = x) (a := ((1427, [some (.retAddr 0), some (.ref 1), some (.ref 62), some (.int i)], []), h)) (b := ((1402, [some (.retAddr 0), some (.ref 1), some (.ref 62), some (.int i)], []), h)) rfl (fun _ => k _ hI) (fun hn => absurd rfl hn)
set_option maxRecDepth 100000 in
set_option maxHeartbeats 4000000 in
theorem L_about (g : okI L i) (ht : 0 ≤ t ∧ t < 600) (hi : INV t h) (k : ∀ h2, INV (t + 1) h2 → mm_T (some (L, xs)) 1000 350 (1427, [some (.retAddr 0), some (.ref 1), some (.ref 62), some (.int i)], []) h2 Q) : mm_T (some (L, xs)) 1000 350 (1404, [some (.retAddr 0), some (.ref 1), some (.ref 62), some (.int i)], []) h Q := by
  obtain ⟨I, J, R, rfl⟩ := INV_h hi
  obtain ⟨x, h1, h2, T1, T2, e1, hI⟩ := C_about ht hi (lgx xs (i + 1))
  obtain ⟨q1, I1, J1, R1⟩ := h1
  obtain rfl : q1 = 107 := e1
  refine mm_T.seg (f' := (1409, [some (.retAddr 0), some (.ref 1), some (.ref 62), some (.int i)], [.int (i + 1), .retAddr 0, .ref 1])) (h' := (107, I, J, R)) 5 rfl ?_
  refine mm_T.guard (y := ((1410, [some (.retAddr 0), some (.ref 1), some (.ref 62), some (.int i)], [.int (lgx xs (i + 1)), .ref 1]), (107, I, J, R))) rfl g.2.1 ?_
  refine mm_T.call (d := 999) (t := 203) (as := [.ref 1, .int (lgx xs (i + 1))]) (f' := (1413, [some (.retAddr 0), some (.ref 1), some (.ref 62), some (.int i)], [])) rfl (T1.deep (by decide)) (fun v h hq => ?_)
  obtain ⟨rfl, rfl⟩ := hq
  refine mm_T.seg (f' := (1418, [some (.retAddr 0), some (.ref 1), some (.ref 62), some (.int i)], [.int (i + 1), .retAddr 0, .ref 62, .int x])) (h' := (107, I1, J1, R1)) 5 rfl ?_
  refine mm_T.guard (y := ((1419, [some (.retAddr 0), some (.ref 1), some (.ref 62), some (.int i)], [.int (lgx xs (i + 1)), .ref 62, .int x]), (107, I1, J1, R1))) rfl g.2.1 ?_
  refine mm_T.call (d := 999) (t := 331) (as := [.ref 62, .int (lgx xs (i + 1))]) (f' := (1422, [some (.retAddr 0), some (.ref 1), some (.ref 62), some (.int i)], [.int x])) rfl (T2.deep (by decide)) (fun v h hq => ?_)
  obtain ⟨rfl, rfl⟩ := hq
  exact mm_T.br (c := x = x) (a := ((1427, [some (.retAddr 0), some (.ref 1), some (.ref 62), some (.int i)], []), h)) (b := ((1425, [some (.retAddr 0), some (.ref 1), some (.ref 62), some (.int i)], []), h)) rfl (fun _ => k _ hI) (fun hn => absurd rfl hn)
end LAWC
