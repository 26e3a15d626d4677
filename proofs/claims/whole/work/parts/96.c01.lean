set_option maxRecDepth 100000 in
set_option maxHeartbeats 4000000 in
theorem tlX1_findMooring_L2 (d : Nat) (Q : Option Value → mm_H → Prop) : ∀ (n : Nat) (y1 : Int32) (I : Nat → Nat → Int32) (J : Nat → Nat → Int64) (rv sp rr w nw : Nat), (rv = 3 ∨ rv = 19) → ∀ (out : (Nat → Nat → Int32)), fX1_findMooring_L2 n y1 I rv = some out → mm_T none (d + 19) 7 (53, [some (.ref 50), none], []) (107, out, J, mm_rf rv sp rr w nw) Q → mm_T none (d + 19) 7 (2, [some (.ref 50), some (.int y1)], []) (107, I, J, mm_rf rv sp rr w nw) Q := by
  intro n
  induction n with
  | zero =>
    intro y1 I J rv sp rr w nw hrv out e k
    rw [fX1_findMooring_L2] at e; cases e
  | succ n ih =>
    intro y1 I J rv sp rr w nw hrv out e k
    rcases hrv with rfl | rfl
    · rw [fX1_findMooring_L2] at e
      refine mm_T.seg (f' := (13, [some (.ref 50), some (.int y1)], [(.int (I 3 4)), (.int y1)])) (h' := (107, I, J, mm_rf 3 sp rr w nw)) 5 rfl ?_
      refine mm_T.br (c := y1 < (I 3 4)) (a := ((16, [some (.ref 50), some (.int y1)], []), (107, I, J, mm_rf 3 sp rr w nw))) (b := ((53, [some (.ref 50), some (.int y1)], []), (107, I, J, mm_rf 3 sp rr w nw))) rfl (fun h1353 => ?_) (fun h1353 => ?_)
      · rw [if_pos h1353] at e
        refine mm_T.seg (f' := (26, [some (.ref 50), some (.int y1)], [(.int y1), (.ref 18), (.int y1), (.ref 51)])) (h' := (107, I, J, mm_rf 3 sp rr w nw)) 6 rfl ?_
        refine mm_T.call (t := 106) (as := [(.ref 18), (.int y1)]) (f' := (29, [some (.ref 50), some (.int y1)], [(.int y1), (.ref 51)])) rfl (tX7_rowOf (d + 16) y1 I J 3 sp rr w nw _ rfl) (fun v h hq => ?_)
        obtain ⟨rfl, rfl⟩ := hq
        refine mm_T.br (c := (fX7_rowOf y1 I) = 0) (a := ((32, [some (.ref 50), some (.int y1)], [(.int y1), (.ref 51)]), (107, I, J, mm_rf 3 sp rr w nw))) (b := ((43, [some (.ref 50), some (.int y1)], [(.int y1), (.ref 51)]), (107, I, J, mm_rf 3 sp rr w nw))) rfl (fun h1354 => ?_) (fun h1354 => ?_)
        · rw [if_pos h1354] at e
          refine mm_T.seg (f' := (37, [some (.ref 50), some (.int y1)], [(.int y1), (.ref 37), (.int y1), (.ref 51)])) (h' := (107, I, J, mm_rf 3 sp rr w nw)) 3 rfl ?_
          obtain ⟨o1355, eo1355, e⟩ := mm_bind e
          refine mm_T.call (t := 85) (as := [(.ref 37), (.int y1)]) (f' := (40, [some (.ref 50), some (.int y1)], [(.int y1), (.ref 51)])) rfl (tX6_landingBits (d + 15) n y1 I J 3 sp rr w nw (Or.inl rfl) o1355 eo1355) (fun v h hq => ?_)
          obtain ⟨rfl, rfl⟩ := hq
          refine mm_T.seg (f' := (44, [some (.ref 50), some (.int y1)], [(.int o1355), (.int y1), (.ref 51)])) (h' := (107, I, J, mm_rf 3 sp rr w nw)) 1 rfl ?_
          refine mm_T.call (t := 205) (as := [(.ref 51), (.int y1), (.int o1355)]) (f' := (47, [some (.ref 50), some (.int y1)], [])) rfl (t_put _ 51 4 y1 o1355 I J (mm_rf 3 sp rr w nw) rfl rfl) (fun v h hq => ?_)
          obtain ⟨rfl, rfl⟩ := hq
          refine mm_T.seg (f' := (2, [some (.ref 50), some (.int (y1 + 1))], [])) (h' := (107, (mf_put I 51 4 y1 o1355), J, mm_rf 3 sp rr w nw)) 2 rfl ?_
          refine mm_T.mask [true, true] ?_
          exact ih (y1 + 1) (mf_put I 51 4 y1 o1355) J 3 sp rr w nw (Or.inl rfl) out e k
        · rw [if_neg h1354] at e
          refine mm_T.seg (f' := (44, [some (.ref 50), some (.int y1)], [(.int 0), (.int y1), (.ref 51)])) (h' := (107, I, J, mm_rf 3 sp rr w nw)) 1 rfl ?_
          refine mm_T.call (t := 205) (as := [(.ref 51), (.int y1), (.int 0)]) (f' := (47, [some (.ref 50), some (.int y1)], [])) rfl (t_put _ 51 4 y1 0 I J (mm_rf 3 sp rr w nw) rfl rfl) (fun v h hq => ?_)
          obtain ⟨rfl, rfl⟩ := hq
          refine mm_T.seg (f' := (2, [some (.ref 50), some (.int (y1 + 1))], [])) (h' := (107, (mf_put I 51 4 y1 0), J, mm_rf 3 sp rr w nw)) 2 rfl ?_
          refine mm_T.mask [true, true] ?_
          exact ih (y1 + 1) (mf_put I 51 4 y1 0) J 3 sp rr w nw (Or.inl rfl) out e k
      · rw [if_neg h1353] at e
        cases e
        refine mm_T.mask [true, false] ?_
        exact k
    · rw [fX1_findMooring_L2] at e
      refine mm_T.seg (f' := (13, [some (.ref 50), some (.int y1)], [(.int (I 19 4)), (.int y1)])) (h' := (107, I, J, mm_rf 19 sp rr w nw)) 5 rfl ?_
      refine mm_T.br (c := y1 < (I 19 4)) (a := ((16, [some (.ref 50), some (.int y1)], []), (107, I, J, mm_rf 19 sp rr w nw))) (b := ((53, [some (.ref 50), some (.int y1)], []), (107, I, J, mm_rf 19 sp rr w nw))) rfl (fun h1353 => ?_) (fun h1353 => ?_)
      · rw [if_pos h1353] at e
        refine mm_T.seg (f' := (26, [some (.ref 50), some (.int y1)], [(.int y1), (.ref 18), (.int y1), (.ref 51)])) (h' := (107, I, J, mm_rf 19 sp rr w nw)) 6 rfl ?_
        refine mm_T.call (t := 106) (as := [(.ref 18), (.int y1)]) (f' := (29, [some (.ref 50), some (.int y1)], [(.int y1), (.ref 51)])) rfl (tX7_rowOf (d + 16) y1 I J 19 sp rr w nw _ rfl) (fun v h hq => ?_)
        obtain ⟨rfl, rfl⟩ := hq
        refine mm_T.br (c := (fX7_rowOf y1 I) = 0) (a := ((32, [some (.ref 50), some (.int y1)], [(.int y1), (.ref 51)]), (107, I, J, mm_rf 19 sp rr w nw))) (b := ((43, [some (.ref 50), some (.int y1)], [(.int y1), (.ref 51)]), (107, I, J, mm_rf 19 sp rr w nw))) rfl (fun h1354 => ?_) (fun h1354 => ?_)
        · rw [if_pos h1354] at e
          refine mm_T.seg (f' := (37, [some (.ref 50), some (.int y1)], [(.int y1), (.ref 37), (.int y1), (.ref 51)])) (h' := (107, I, J, mm_rf 19 sp rr w nw)) 3 rfl ?_
          obtain ⟨o1355, eo1355, e⟩ := mm_bind e
          refine mm_T.call (t := 85) (as := [(.ref 37), (.int y1)]) (f' := (40, [some (.ref 50), some (.int y1)], [(.int y1), (.ref 51)])) rfl (tX6_landingBits (d + 15) n y1 I J 19 sp rr w nw (Or.inr rfl) o1355 eo1355) (fun v h hq => ?_)
          obtain ⟨rfl, rfl⟩ := hq
          refine mm_T.seg (f' := (44, [some (.ref 50), some (.int y1)], [(.int o1355), (.int y1), (.ref 51)])) (h' := (107, I, J, mm_rf 19 sp rr w nw)) 1 rfl ?_
          refine mm_T.call (t := 205) (as := [(.ref 51), (.int y1), (.int o1355)]) (f' := (47, [some (.ref 50), some (.int y1)], [])) rfl (t_put _ 51 4 y1 o1355 I J (mm_rf 19 sp rr w nw) rfl rfl) (fun v h hq => ?_)
          obtain ⟨rfl, rfl⟩ := hq
          refine mm_T.seg (f' := (2, [some (.ref 50), some (.int (y1 + 1))], [])) (h' := (107, (mf_put I 51 4 y1 o1355), J, mm_rf 19 sp rr w nw)) 2 rfl ?_
          refine mm_T.mask [true, true] ?_
          exact ih (y1 + 1) (mf_put I 51 4 y1 o1355) J 19 sp rr w nw (Or.inr rfl) out e k
        · rw [if_neg h1354] at e
          refine mm_T.seg (f' := (44, [some (.ref 50), some (.int y1)], [(.int 0), (.int y1), (.ref 51)])) (h' := (107, I, J, mm_rf 19 sp rr w nw)) 1 rfl ?_
          refine mm_T.call (t := 205) (as := [(.ref 51), (.int y1), (.int 0)]) (f' := (47, [some (.ref 50), some (.int y1)], [])) rfl (t_put _ 51 4 y1 0 I J (mm_rf 19 sp rr w nw) rfl rfl) (fun v h hq => ?_)
          obtain ⟨rfl, rfl⟩ := hq
          refine mm_T.seg (f' := (2, [some (.ref 50), some (.int (y1 + 1))], [])) (h' := (107, (mf_put I 51 4 y1 0), J, mm_rf 19 sp rr w nw)) 2 rfl ?_
          refine mm_T.mask [true, true] ?_
          exact ih (y1 + 1) (mf_put I 51 4 y1 0) J 19 sp rr w nw (Or.inr rfl) out e k
      · rw [if_neg h1353] at e
        cases e
        refine mm_T.mask [true, false] ?_
        exact k
set_option maxRecDepth 100000 in
set_option maxHeartbeats 4000000 in
theorem tX1_findMooring (d n : Nat) (I : Nat → Nat → Int32) (J : Nat → Nat → Int64) (rv sp rr w nw : Nat) (hrv : rv = 3 ∨ rv = 19) (out : (Nat → Nat → Int32)) (e : fX1_findMooring n I rv = some out) : mm_T none (d + 19) 7 (mm_ent 7 [(.ref 50)]) (107, I, J, mm_rf rv sp rr w nw) (fun v h => v = none ∧ h = (107, out, J, mm_rf rv sp rr w nw)) := by
  rcases hrv with rfl | rfl
  · unfold fX1_findMooring at e
    refine mm_T.seg (f' := (2, [some (.ref 50), some (.int 0)], [])) (h' := (107, I, J, mm_rf 3 sp rr w nw)) 2 rfl ?_
    refine mm_T.mask [true, true] ?_
    obtain ⟨o1356, eo1356, e⟩ := mm_bind e
    refine tlX1_findMooring_L2 d _ n 0 I J 3 sp rr w nw (Or.inl rfl) o1356 eo1356 ?_
    refine mm_T.seg (f' := (68, [some (.ref 50), none], [(.int 0), (.int 0), (.int 0), (.int 0), (.ref 50)])) (h' := (107, (mm_up (mm_up o1356 50 5 (-1)) 50 6 0), J, mm_rf 3 sp rr w nw)) 11 rfl ?_
    obtain ⟨o1373, eo1373, e⟩ := mm_bind e
    refine mm_T.call (t := 8) (as := [(.ref 50), (.int 0), (.int 0), (.int 0), (.int 0)]) (f' := (71, [some (.ref 50), none], [])) rfl (mm_T.deep (tX1_moor d n 6 0 0 0 0 (mm_up (mm_up o1356 50 5 (-1)) 50 6 0) J 3 sp rr w nw (Or.inl rfl) o1373 eo1373) (by omega)) (fun v h hq => ?_)
    obtain ⟨rfl, rfl⟩ := hq
    cases e
    exact mm_T.ret rfl ⟨rfl, rfl⟩
  · unfold fX1_findMooring at e
    refine mm_T.seg (f' := (2, [some (.ref 50), some (.int 0)], [])) (h' := (107, I, J, mm_rf 19 sp rr w nw)) 2 rfl ?_
    refine mm_T.mask [true, true] ?_
    obtain ⟨o1356, eo1356, e⟩ := mm_bind e
    refine tlX1_findMooring_L2 d _ n 0 I J 19 sp rr w nw (Or.inr rfl) o1356 eo1356 ?_
    refine mm_T.seg (f' := (68, [some (.ref 50), none], [(.int 0), (.int 0), (.int 0), (.int 0), (.ref 50)])) (h' := (107, (mm_up (mm_up o1356 50 5 (-1)) 50 6 0), J, mm_rf 19 sp rr w nw)) 11 rfl ?_
    obtain ⟨o1373, eo1373, e⟩ := mm_bind e
    refine mm_T.call (t := 8) (as := [(.ref 50), (.int 0), (.int 0), (.int 0), (.int 0)]) (f' := (71, [some (.ref 50), none], [])) rfl (mm_T.deep (tX1_moor d n 6 0 0 0 0 (mm_up (mm_up o1356 50 5 (-1)) 50 6 0) J 19 sp rr w nw (Or.inr rfl) o1373 eo1373) (by omega)) (fun v h hq => ?_)
    obtain ⟨rfl, rfl⟩ := hq
    cases e
    exact mm_T.ret rfl ⟨rfl, rfl⟩
set_option maxRecDepth 100000 in
set_option maxHeartbeats 4000000 in
theorem tX1_gain (d : Nat) (x0 : Int32) (x1 : Int32) (x2 : Int32) (I : Nat → Nat → Int32) (J : Nat → Nat → Int64) (rv sp rr w nw : Nat) (out : Int32) (e : fX1_gain x0 x1 x2 = out) : mm_T none (d + 1) 11 (mm_ent 11 [(.int x0), (.int x1), (.int x2)]) (107, I, J, mm_rf rv sp rr w nw) (fun v h => v = some (.int out) ∧ h = (107, I, J, mm_rf rv sp rr w nw)) := by
  unfold fX1_gain at e
  refine mm_T.seg (f' := (2, [some (.int x0), some (.int x1), some (.int x2)], [(.int x1), (.int x0)])) (h' := (107, I, J, mm_rf rv sp rr w nw)) 2 rfl ?_
  refine mm_T.br (c := x0 = x1) (a := ((5, [some (.int x0), some (.int x1), some (.int x2)], []), (107, I, J, mm_rf rv sp rr w nw))) (b := ((9, [some (.int x0), some (.int x1), some (.int x2)], []), (107, I, J, mm_rf rv sp rr w nw))) rfl (fun h1384 => ?_) (fun h1384 => ?_)
  · rw [if_pos h1384] at e
    refine mm_T.seg (f' := (14, [some (.int x0), some (.int x1), some (.int x2)], [(.int (x0 - x2)), (.int 3)])) (h' := (107, I, J, mm_rf rv sp rr w nw)) 5 rfl ?_
    refine mm_T.call (t := 346) (as := [(.int (x0 - x2))]) (f' := (17, [some (.int x0), some (.int x1), some (.int x2)], [(.int 3)])) rfl (tJ9_abs (d + 0) (x0 - x2) I J rv sp rr w nw _ rfl) (fun v h hq => ?_)
    obtain ⟨rfl, rfl⟩ := hq
    refine mm_T.seg (f' := (18, [some (.int x0), some (.int x1), some (.int x2)], [(.int (3 - (fJ9_abs (x0 - x2))))])) (h' := (107, I, J, mm_rf rv sp rr w nw)) 1 rfl ?_
    cases e
    exact mm_T.ret rfl ⟨rfl, rfl⟩
  · rw [if_neg h1384] at e
    refine mm_T.seg (f' := (14, [some (.int x0), some (.int x1), some (.int x2)], [(.int (x0 - x2)), (.int 9)])) (h' := (107, I, J, mm_rf rv sp rr w nw)) 4 rfl ?_
    refine mm_T.call (t := 346) (as := [(.int (x0 - x2))]) (f' := (17, [some (.int x0), some (.int x1), some (.int x2)], [(.int 9)])) rfl (tJ9_abs (d + 0) (x0 - x2) I J rv sp rr w nw _ rfl) (fun v h hq => ?_)
    obtain ⟨rfl, rfl⟩ := hq
    refine mm_T.seg (f' := (18, [some (.int x0), some (.int x1), some (.int x2)], [(.int (9 - (fJ9_abs (x0 - x2))))])) (h' := (107, I, J, mm_rf rv sp rr w nw)) 1 rfl ?_
    cases e
    exact mm_T.ret rfl ⟨rfl, rfl⟩
set_option maxRecDepth 100000 in
set_option maxHeartbeats 4000000 in
theorem tlX1_staysBest_L3 (d : Nat) (Q : Option Value → mm_H → Prop) : ∀ (n : Nat) (y0 : Int32) (y1 : Int32) (y2 : Int32) (y3 : Int32) (y4 : Int32) (I : Nat → Nat → Int32) (J : Nat → Nat → Int64) (rv sp rr w nw : Nat), ∀ (out : (Int32 ⊕ (Unit))), fX1_staysBest_L3 n y0 y1 y2 y3 y4 = some out → (∀ (r : Int32), out = .inl r → Q (some (.int r)) (107, I, J, mm_rf rv sp rr w nw)) → (∀ (y : Unit), out = .inr y → mm_T none (d + 2) 10 (43, [none, none, none, none, none], []) (107, I, J, mm_rf rv sp rr w nw) Q) → mm_T none (d + 2) 10 (3, [some (.int y0), some (.int y1), some (.int y2), some (.int y3), some (.int y4)], []) (107, I, J, mm_rf rv sp rr w nw) Q := by
  intro n
  induction n with
  | zero =>
    intro y0 y1 y2 y3 y4 I J rv sp rr w nw out e kr ke
    rw [fX1_staysBest_L3] at e; cases e
  | succ n ih =>
    intro y0 y1 y2 y3 y4 I J rv sp rr w nw out e kr ke
    rw [fX1_staysBest_L3] at e
    refine mm_T.seg (f' := (7, [some (.int y0), some (.int y1), some (.int y2), some (.int y3), some (.int y4)], [(.int 8), (.int y4)])) (h' := (107, I, J, mm_rf rv sp rr w nw)) 2 rfl ?_
    refine mm_T.br (c := y4 < 8) (a := ((10, [some (.int y0), some (.int y1), some (.int y2), some (.int y3), some (.int y4)], []), (107, I, J, mm_rf rv sp rr w nw))) (b := ((43, [some (.int y0), some (.int y1), some (.int y2), some (.int y3), some (.int y4)], []), (107, I, J, mm_rf rv sp rr w nw))) rfl (fun h1382 => ?_) (fun h1382 => ?_)
    · rw [if_pos h1382] at e
      refine mm_T.seg (f' := (16, [some (.int y0), some (.int y1), some (.int y2), some (.int y3), some (.int y4)], [(.int ((y0 >>> (y4 &&& 31)) &&& 1))])) (h' := (107, I, J, mm_rf rv sp rr w nw)) 5 rfl ?_
      refine mm_T.br (c := ((y0 >>> (y4 &&& 31)) &&& 1) = 0) (a := ((37, [some (.int y0), some (.int y1), some (.int y2), some (.int y3), some (.int y4)], []), (107, I, J, mm_rf rv sp rr w nw))) (b := ((19, [some (.int y0), some (.int y1), some (.int y2), some (.int y3), some (.int y4)], []), (107, I, J, mm_rf rv sp rr w nw))) rfl (fun h1383 => ?_) (fun h1383 => ?_)
      · rw [if_pos h1383] at e
        refine mm_T.seg (f' := (3, [some (.int y0), some (.int y1), some (.int y2), some (.int y3), some (.int (y4 + 1))], [])) (h' := (107, I, J, mm_rf rv sp rr w nw)) 2 rfl ?_
        refine mm_T.mask [true, true, true, true, true] ?_
        exact ih y0 y1 y2 y3 (y4 + 1) I J rv sp rr w nw out e kr ke
      · rw [if_neg h1383] at e
        refine mm_T.seg (f' := (23, [some (.int y0), some (.int y1), some (.int y2), some (.int y3), some (.int y4)], [(.int y1), (.int y3), (.int y4)])) (h' := (107, I, J, mm_rf rv sp rr w nw)) 3 rfl ?_
        refine mm_T.call (t := 11) (as := [(.int y4), (.int y3), (.int y1)]) (f' := (26, [some (.int y0), some (.int y1), some (.int y2), some (.int y3), some (.int y4)], [])) rfl (tX1_gain (d + 0) y4 y3 y1 I J rv sp rr w nw _ rfl) (fun v h hq => ?_)
        obtain ⟨rfl, rfl⟩ := hq
        refine mm_T.seg (f' := (29, [some (.int y0), some (.int y1), some (.int y2), some (.int y3), some (.int y4)], [(.int y1), (.int y3), (.int y2), (.int (fX1_gain y4 y3 y1))])) (h' := (107, I, J, mm_rf rv sp rr w nw)) 3 rfl ?_
        refine mm_T.call (t := 11) (as := [(.int y2), (.int y3), (.int y1)]) (f' := (32, [some (.int y0), some (.int y1), some (.int y2), some (.int y3), some (.int y4)], [(.int (fX1_gain y4 y3 y1))])) rfl (tX1_gain (d + 0) y2 y3 y1 I J rv sp rr w nw _ rfl) (fun v h hq => ?_)
        obtain ⟨rfl, rfl⟩ := hq
        refine mm_T.br (c := (fX1_gain y2 y3 y1) < (fX1_gain y4 y3 y1)) (a := ((35, [some (.int y0), some (.int y1), some (.int y2), some (.int y3), some (.int y4)], []), (107, I, J, mm_rf rv sp rr w nw))) (b := ((37, [some (.int y0), some (.int y1), some (.int y2), some (.int y3), some (.int y4)], []), (107, I, J, mm_rf rv sp rr w nw))) rfl (fun h1385 => ?_) (fun h1385 => ?_)
        · rw [if_pos h1385] at e
          refine mm_T.seg (f' := (36, [some (.int y0), some (.int y1), some (.int y2), some (.int y3), some (.int y4)], [(.int 0)])) (h' := (107, I, J, mm_rf rv sp rr w nw)) 1 rfl ?_
          cases e
          exact mm_T.ret rfl (kr _ rfl)
        · rw [if_neg h1385] at e
          refine mm_T.seg (f' := (3, [some (.int y0), some (.int y1), some (.int y2), some (.int y3), some (.int (y4 + 1))], [])) (h' := (107, I, J, mm_rf rv sp rr w nw)) 2 rfl ?_
          refine mm_T.mask [true, true, true, true, true] ?_
          exact ih y0 y1 y2 y3 (y4 + 1) I J rv sp rr w nw out e kr ke
    · rw [if_neg h1382] at e
      cases e
      refine mm_T.mask [false, false, false, false, false] ?_
      exact ke _ rfl
set_option maxRecDepth 100000 in
set_option maxHeartbeats 4000000 in
theorem tX1_staysBest (d n : Nat) (x0 : Int32) (x1 : Int32) (x2 : Int32) (x3 : Int32) (I : Nat → Nat → Int32) (J : Nat → Nat → Int64) (rv sp rr w nw : Nat) (out : Int32) (e : fX1_staysBest n x0 x1 x2 x3 = some out) : mm_T none (d + 2) 10 (mm_ent 10 [(.int x0), (.int x1), (.int x2), (.int x3)]) (107, I, J, mm_rf rv sp rr w nw) (fun v h => v = some (.int out) ∧ h = (107, I, J, mm_rf rv sp rr w nw)) := by
  unfold fX1_staysBest at e
  refine mm_T.seg (f' := (3, [some (.int x0), some (.int x1), some (.int x2), some (.int x3), some (.int 0)], [])) (h' := (107, I, J, mm_rf rv sp rr w nw)) 2 rfl ?_
  refine mm_T.mask [true, true, true, true, true] ?_
  obtain ⟨o1386, eo1386, e⟩ := mm_bind e
  rcases o1386 with va1387 | vb1387
  · cases e
    refine tlX1_staysBest_L3 d _ n x0 x1 x2 x3 0 I J rv sp rr w nw _ eo1386 (fun z hz => ?_) (fun z hz => ?_)
    · cases hz; exact ⟨rfl, rfl⟩
    · cases hz
  · refine tlX1_staysBest_L3 d _ n x0 x1 x2 x3 0 I J rv sp rr w nw (.inr vb1387) eo1386 (fun z hz => ?_) (fun z hz => ?_)
    · cases hz
    · cases hz
      refine mm_T.seg (f' := (44, [none, none, none, none, none], [(.int 1)])) (h' := (107, I, J, mm_rf rv sp rr w nw)) 1 rfl ?_
      cases e
      exact mm_T.ret rfl ⟨rfl, rfl⟩
set_option maxRecDepth 100000 in
set_option maxHeartbeats 4000000 in
theorem tlX1_countRests_L66 (d : Nat) (Q : Option Value → mm_H → Prop) : ∀ (n : Nat) (y3 : Int32) (y4 : Int32) (y5 : Int32) (y6 : Int32) (y7 : Int32) (y8 : Int32) (y9 : Int32) (I : Nat → Nat → Int32) (J : Nat → Nat → Int64) (rv sp rr w nw : Nat), ∀ (out : Int32 × (Nat → Nat → Int32)), fX1_countRests_L66 n y3 y4 y5 y6 y7 y8 y9 I = some out → mm_T none (d + 4) 9 (176, [some (.ref 50), none, none, some (.int y3), some (.int y4), some (.int y5), some (.int y6), some (.int out.1), some (.int y8), none, none], []) (107, out.2, J, mm_rf rv sp rr w nw) Q → mm_T none (d + 4) 9 (66, [some (.ref 50), none, none, some (.int y3), some (.int y4), some (.int y5), some (.int y6), some (.int y7), some (.int y8), some (.int y9), none], []) (107, I, J, mm_rf rv sp rr w nw) Q := by
  intro n
  induction n with
  | zero =>
    intro y3 y4 y5 y6 y7 y8 y9 I J rv sp rr w nw out e k
    rw [fX1_countRests_L66] at e; cases e
  | succ n ih =>
    intro y3 y4 y5 y6 y7 y8 y9 I J rv sp rr w nw out e k
    rw [fX1_countRests_L66] at e
    refine mm_T.seg (f' := (70, [some (.ref 50), none, none, some (.int y3), some (.int y4), some (.int y5), some (.int y6), some (.int y7), some (.int y8), some (.int y9), none], [(.int 8), (.int y9)])) (h' := (107, I, J, mm_rf rv sp rr w nw)) 2 rfl ?_
    refine mm_T.br (c := y9 < 8) (a := ((73, [some (.ref 50), none, none, some (.int y3), some (.int y4), some (.int y5), some (.int y6), some (.int y7), some (.int y8), some (.int y9), none], []), (107, I, J, mm_rf rv sp rr w nw))) (b := ((176, [some (.ref 50), none, none, some (.int y3), some (.int y4), some (.int y5), some (.int y6), some (.int y7), some (.int y8), some (.int y9), none], []), (107, I, J, mm_rf rv sp rr w nw))) rfl (fun h1379 => ?_) (fun h1379 => ?_)
    · rw [if_pos h1379] at e
      refine mm_T.seg (f' := (79, [some (.ref 50), none, none, some (.int y3), some (.int y4), some (.int y5), some (.int y6), some (.int y7), some (.int y8), some (.int y9), none], [(.int ((y3 >>> (y8 &&& 31)) &&& 1))])) (h' := (107, I, J, mm_rf rv sp rr w nw)) 5 rfl ?_
      refine mm_T.br (c := ((y3 >>> (y8 &&& 31)) &&& 1) = 0) (a := ((96, [some (.ref 50), none, none, some (.int y3), some (.int y4), some (.int y5), some (.int y6), some (.int y7), some (.int y8), some (.int y9), none], []), (107, I, J, mm_rf rv sp rr w nw))) (b := ((82, [some (.ref 50), none, none, some (.int y3), some (.int y4), some (.int y5), some (.int y6), some (.int y7), some (.int y8), some (.int y9), none], []), (107, I, J, mm_rf rv sp rr w nw))) rfl (fun h1380 => ?_) (fun h1380 => ?_)
      · rw [if_pos h1380] at e
        refine mm_T.seg (f' := (66, [some (.ref 50), none, none, some (.int y3), some (.int y4), some (.int y5), some (.int y6), some (.int y7), some (.int y8), some (.int (y9 + 1)), some (.int 0)], [])) (h' := (107, I, J, mm_rf rv sp rr w nw)) 6 rfl ?_
        refine mm_T.mask [true, false, false, true, true, true, true, true, true, true, false] ?_
        exact ih y3 y4 y5 y6 y7 y8 (y9 + 1) I J rv sp rr w nw out e k
      · rw [if_neg h1380] at e
        refine mm_T.seg (f' := (89, [some (.ref 50), none, none, some (.int y3), some (.int y4), some (.int y5), some (.int y6), some (.int y7), some (.int y8), some (.int y9), none], [(.int ((y4 >>> (y9 &&& 31)) &&& 1))])) (h' := (107, I, J, mm_rf rv sp rr w nw)) 5 rfl ?_
        refine mm_T.br (c := ((y4 >>> (y9 &&& 31)) &&& 1) = 0) (a := ((96, [some (.ref 50), none, none, some (.int y3), some (.int y4), some (.int y5), some (.int y6), some (.int y7), some (.int y8), some (.int y9), none], []), (107, I, J, mm_rf rv sp rr w nw))) (b := ((92, [some (.ref 50), none, none, some (.int y3), some (.int y4), some (.int y5), some (.int y6), some (.int y7), some (.int y8), some (.int y9), none], []), (107, I, J, mm_rf rv sp rr w nw))) rfl (fun h1381 => ?_) (fun h1381 => ?_)
        · rw [if_pos h1381] at e
          refine mm_T.seg (f' := (66, [some (.ref 50), none, none, some (.int y3), some (.int y4), some (.int y5), some (.int y6), some (.int y7), some (.int y8), some (.int (y9 + 1)), some (.int 0)], [])) (h' := (107, I, J, mm_rf rv sp rr w nw)) 6 rfl ?_
          refine mm_T.mask [true, false, false, true, true, true, true, true, true, true, false] ?_
          exact ih y3 y4 y5 y6 y7 y8 (y9 + 1) I J rv sp rr w nw out e k
        · rw [if_neg h1381] at e
          refine mm_T.seg (f' := (111, [some (.ref 50), none, none, some (.int y3), some (.int y4), some (.int y5), some (.int y6), some (.int y7), some (.int y8), some (.int y9), some (.int 1)], [(.int y9), (.int y8), (.int y5), (.int y3)])) (h' := (107, I, J, mm_rf rv sp rr w nw)) 9 rfl ?_
          obtain ⟨o1388, eo1388, e⟩ := mm_bind e
          refine mm_T.call (t := 10) (as := [(.int y3), (.int y5), (.int y8), (.int y9)]) (f' := (114, [some (.ref 50), none, none, some (.int y3), some (.int y4), some (.int y5), some (.int y6), some (.int y7), some (.int y8), some (.int y9), some (.int 1)], [])) rfl (tX1_staysBest (d + 1) n y3 y5 y8 y9 I J rv sp rr w nw o1388 eo1388) (fun v h hq => ?_)
          obtain ⟨rfl, rfl⟩ := hq
          refine mm_T.br (c := o1388 = 0) (a := ((170, [some (.ref 50), none, none, some (.int y3), some (.int y4), some (.int y5), some (.int y6), some (.int y7), some (.int y8), some (.int y9), some (.int 1)], []), (107, I, J, mm_rf rv sp rr w nw))) (b := ((117, [some (.ref 50), none, none, some (.int y3), some (.int y4), some (.int y5), some (.int y6), some (.int y7), some (.int y8), some (.int y9), some (.int 1)], []), (107, I, J, mm_rf rv sp rr w nw))) rfl (fun h1389 => ?_) (fun h1389 => ?_)
          · rw [if_pos h1389] at e
            refine mm_T.seg (f' := (66, [some (.ref 50), none, none, some (.int y3), some (.int y4), some (.int y5), some (.int y6), some (.int y7), some (.int y8), some (.int (y9 + 1)), some (.int 1)], [])) (h' := (107, I, J, mm_rf rv sp rr w nw)) 2 rfl ?_
            refine mm_T.mask [true, false, false, true, true, true, true, true, true, true, false] ?_
            exact ih y3 y4 y5 y6 y7 y8 (y9 + 1) I J rv sp rr w nw out e k
          · rw [if_neg h1389] at e
            refine mm_T.seg (f' := (125, [some (.ref 50), none, none, some (.int y3), some (.int y4), some (.int y5), some (.int y6), some (.int y7), some (.int y8), some (.int y9), some (.int 1)], [(.int y8), (.int y9), (.int y6), (.int y4)])) (h' := (107, I, J, mm_rf rv sp rr w nw)) 4 rfl ?_
            obtain ⟨o1390, eo1390, e⟩ := mm_bind e
            refine mm_T.call (t := 10) (as := [(.int y4), (.int y6), (.int y9), (.int y8)]) (f' := (128, [some (.ref 50), none, none, some (.int y3), some (.int y4), some (.int y5), some (.int y6), some (.int y7), some (.int y8), some (.int y9), some (.int 1)], [])) rfl (tX1_staysBest (d + 1) n y4 y6 y9 y8 I J rv sp rr w nw o1390 eo1390) (fun v h hq => ?_)
            obtain ⟨rfl, rfl⟩ := hq
            refine mm_T.br (c := o1390 = 0) (a := ((170, [some (.ref 50), none, none, some (.int y3), some (.int y4), some (.int y5), some (.int y6), some (.int y7), some (.int y8), some (.int y9), some (.int 1)], []), (107, I, J, mm_rf rv sp rr w nw))) (b := ((131, [some (.ref 50), none, none, some (.int y3), some (.int y4), some (.int y5), some (.int y6), some (.int y7), some (.int y8), some (.int y9), some (.int 1)], []), (107, I, J, mm_rf rv sp rr w nw))) rfl (fun h1391 => ?_) (fun h1391 => ?_)
            · rw [if_pos h1391] at e
              refine mm_T.seg (f' := (66, [some (.ref 50), none, none, some (.int y3), some (.int y4), some (.int y5), some (.int y6), some (.int y7), some (.int y8), some (.int (y9 + 1)), some (.int 1)], [])) (h' := (107, I, J, mm_rf rv sp rr w nw)) 2 rfl ?_
              refine mm_T.mask [true, false, false, true, true, true, true, true, true, true, false] ?_
              exact ih y3 y4 y5 y6 y7 y8 (y9 + 1) I J rv sp rr w nw out e k
            · rw [if_neg h1391] at e
              refine mm_T.seg (f' := (134, [some (.ref 50), none, none, some (.int y3), some (.int y4), some (.int y5), some (.int y6), some (.int y7), some (.int y8), some (.int y9), some (.int 1)], [(.int y7), (.ref 50)])) (h' := (107, I, J, mm_rf rv sp rr w nw)) 2 rfl ?_
              refine mm_T.br (c := y7 = 0) (a := ((137, [some (.ref 50), none, none, some (.int y3), some (.int y4), some (.int y5), some (.int y6), some (.int y7), some (.int y8), some (.int y9), some (.int 1)], [(.ref 50)]), (107, I, J, mm_rf rv sp rr w nw))) (b := ((142, [some (.ref 50), none, none, some (.int y3), some (.int y4), some (.int y5), some (.int y6), some (.int y7), some (.int y8), some (.int y9), some (.int 1)], [(.ref 50)]), (107, I, J, mm_rf rv sp rr w nw))) rfl (fun h1392 => ?_) (fun h1392 => ?_)
              · rw [if_pos h1392] at e
                refine mm_T.seg (f' := (152, [some (.ref 50), none, none, some (.int y3), some (.int y4), some (.int y5), some (.int y6), some (.int y7), some (.int y8), some (.int y9), some (.int 1)], [(.int y7), (.ref 50)])) (h' := (107, (mm_up I 50 7 y8), J, mm_rf rv sp rr w nw)) 5 rfl ?_
                refine mm_T.br (c := y7 = 0) (a := ((155, [some (.ref 50), none, none, some (.int y3), some (.int y4), some (.int y5), some (.int y6), some (.int y7), some (.int y8), some (.int y9), some (.int 1)], [(.ref 50)]), (107, (mm_up I 50 7 y8), J, mm_rf rv sp rr w nw))) (b := ((160, [some (.ref 50), none, none, some (.int y3), some (.int y4), some (.int y5), some (.int y6), some (.int y7), some (.int y8), some (.int y9), some (.int 1)], [(.ref 50)]), (107, (mm_up I 50 7 y8), J, mm_rf rv sp rr w nw))) rfl (fun h1393 => ?_) (fun h1393 => ?_)
                · rw [if_pos h1393] at e
                  refine mm_T.seg (f' := (66, [some (.ref 50), none, none, some (.int y3), some (.int y4), some (.int y5), some (.int y6), some (.int (y7 + 1)), some (.int y8), some (.int (y9 + 1)), some (.int 1)], [])) (h' := (107, (mm_up (mm_up I 50 7 y8) 50 8 y9), J, mm_rf rv sp rr w nw)) 6 rfl ?_
                  refine mm_T.mask [true, false, false, true, true, true, true, true, true, true, false] ?_
                  exact ih y3 y4 y5 y6 (y7 + 1) y8 (y9 + 1) (mm_up (mm_up I 50 7 y8) 50 8 y9) J rv sp rr w nw out e k
                · rw [if_neg h1393] at e
                  refine mm_T.seg (f' := (66, [some (.ref 50), none, none, some (.int y3), some (.int y4), some (.int y5), some (.int y6), some (.int (y7 + 1)), some (.int y8), some (.int (y9 + 1)), some (.int 1)], [])) (h' := (107, (mm_up (mm_up I 50 7 y8) 50 8 (I 50 8)), J, mm_rf rv sp rr w nw)) 6 rfl ?_
                  refine mm_T.mask [true, false, false, true, true, true, true, true, true, true, false] ?_
                  exact ih y3 y4 y5 y6 (y7 + 1) y8 (y9 + 1) (mm_up (mm_up I 50 7 y8) 50 8 (I 50 8)) J rv sp rr w nw out e k
              · rw [if_neg h1392] at e
                refine mm_T.seg (f' := (152, [some (.ref 50), none, none, some (.int y3), some (.int y4), some (.int y5), some (.int y6), some (.int y7), some (.int y8), some (.int y9), some (.int 1)], [(.int y7), (.ref 50)])) (h' := (107, (mm_up I 50 7 (I 50 7)), J, mm_rf rv sp rr w nw)) 5 rfl ?_
                refine mm_T.br (c := y7 = 0) (a := ((155, [some (.ref 50), none, none, some (.int y3), some (.int y4), some (.int y5), some (.int y6), some (.int y7), some (.int y8), some (.int y9), some (.int 1)], [(.ref 50)]), (107, (mm_up I 50 7 (I 50 7)), J, mm_rf rv sp rr w nw))) (b := ((160, [some (.ref 50), none, none, some (.int y3), some (.int y4), some (.int y5), some (.int y6), some (.int y7), some (.int y8), some (.int y9), some (.int 1)], [(.ref 50)]), (107, (mm_up I 50 7 (I 50 7)), J, mm_rf rv sp rr w nw))) rfl (fun h1394 => ?_) (fun h1394 => ?_)
                · rw [if_pos h1394] at e
                  refine mm_T.seg (f' := (66, [some (.ref 50), none, none, some (.int y3), some (.int y4), some (.int y5), some (.int y6), some (.int (y7 + 1)), some (.int y8), some (.int (y9 + 1)), some (.int 1)], [])) (h' := (107, (mm_up (mm_up I 50 7 (I 50 7)) 50 8 y9), J, mm_rf rv sp rr w nw)) 6 rfl ?_
                  refine mm_T.mask [true, false, false, true, true, true, true, true, true, true, false] ?_
                  exact ih y3 y4 y5 y6 (y7 + 1) y8 (y9 + 1) (mm_up (mm_up I 50 7 (I 50 7)) 50 8 y9) J rv sp rr w nw out e k
                · rw [if_neg h1394] at e
                  refine mm_T.seg (f' := (66, [some (.ref 50), none, none, some (.int y3), some (.int y4), some (.int y5), some (.int y6), some (.int (y7 + 1)), some (.int y8), some (.int (y9 + 1)), some (.int 1)], [])) (h' := (107, (mm_up (mm_up I 50 7 (I 50 7)) 50 8 (I 50 8)), J, mm_rf rv sp rr w nw)) 6 rfl ?_
                  refine mm_T.mask [true, false, false, true, true, true, true, true, true, true, false] ?_
                  exact ih y3 y4 y5 y6 (y7 + 1) y8 (y9 + 1) (mm_up (mm_up I 50 7 (I 50 7)) 50 8 (I 50 8)) J rv sp rr w nw out e k
    · rw [if_neg h1379] at e
      cases e
      refine mm_T.mask [true, false, false, true, true, true, true, true, true, false, false] ?_
      exact k
set_option maxRecDepth 100000 in
set_option maxHeartbeats 4000000 in
theorem tlX1_countRests_L56 (d : Nat) (Q : Option Value → mm_H → Prop) : ∀ (n : Nat) (y3 : Int32) (y4 : Int32) (y5 : Int32) (y6 : Int32) (y7 : Int32) (y8 : Int32) (I : Nat → Nat → Int32) (J : Nat → Nat → Int64) (rv sp rr w nw : Nat), ∀ (out : Int32 × (Nat → Nat → Int32)), fX1_countRests_L56 n y3 y4 y5 y6 y7 y8 I = some out → mm_T none (d + 4) 9 (182, [none, none, none, none, none, none, none, some (.int out.1), none, none, none], []) (107, out.2, J, mm_rf rv sp rr w nw) Q → mm_T none (d + 4) 9 (56, [some (.ref 50), none, none, some (.int y3), some (.int y4), some (.int y5), some (.int y6), some (.int y7), some (.int y8), none, none], []) (107, I, J, mm_rf rv sp rr w nw) Q := by
  intro n
  induction n with
  | zero =>
    intro y3 y4 y5 y6 y7 y8 I J rv sp rr w nw out e k
    rw [fX1_countRests_L56] at e; cases e
  | succ n ih =>
    intro y3 y4 y5 y6 y7 y8 I J rv sp rr w nw out e k
    rw [fX1_countRests_L56] at e
    refine mm_T.seg (f' := (60, [some (.ref 50), none, none, some (.int y3), some (.int y4), some (.int y5), some (.int y6), some (.int y7), some (.int y8), none, none], [(.int 8), (.int y8)])) (h' := (107, I, J, mm_rf rv sp rr w nw)) 2 rfl ?_
    refine mm_T.br (c := y8 < 8) (a := ((63, [some (.ref 50), none, none, some (.int y3), some (.int y4), some (.int y5), some (.int y6), some (.int y7), some (.int y8), none, none], []), (107, I, J, mm_rf rv sp rr w nw))) (b := ((182, [some (.ref 50), none, none, some (.int y3), some (.int y4), some (.int y5), some (.int y6), some (.int y7), some (.int y8), none, none], []), (107, I, J, mm_rf rv sp rr w nw))) rfl (fun h1378 => ?_) (fun h1378 => ?_)
    · rw [if_pos h1378] at e
      refine mm_T.seg (f' := (66, [some (.ref 50), none, none, some (.int y3), some (.int y4), some (.int y5), some (.int y6), some (.int y7), some (.int y8), some (.int 0), none], [])) (h' := (107, I, J, mm_rf rv sp rr w nw)) 2 rfl ?_
      refine mm_T.mask [true, false, false, true, true, true, true, true, true, true, false] ?_
      obtain ⟨o1395, eo1395, e⟩ := mm_bind e
      refine tlX1_countRests_L66 d _ n y3 y4 y5 y6 y7 y8 0 I J rv sp rr w nw o1395 eo1395 ?_
      refine mm_T.seg (f' := (56, [some (.ref 50), none, none, some (.int y3), some (.int y4), some (.int y5), some (.int y6), some (.int o1395.1), some (.int (y8 + 1)), none, none], [])) (h' := (107, o1395.2, J, mm_rf rv sp rr w nw)) 2 rfl ?_
      refine mm_T.mask [true, false, false, true, true, true, true, true, true, false, false] ?_
      exact ih y3 y4 y5 y6 o1395.1 (y8 + 1) o1395.2 J rv sp rr w nw out e k
    · rw [if_neg h1378] at e
      cases e
      refine mm_T.mask [false, false, false, false, false, false, false, true, false, false, false] ?_
      exact k
set_option maxRecDepth 100000 in
set_option maxHeartbeats 4000000 in
theorem tX1_countRests (d n : Nat) (x1 : Int32) (x2 : Int32) (I : Nat → Nat → Int32) (J : Nat → Nat → Int64) (rv sp rr w nw : Nat) (hrv : rv = 3 ∨ rv = 19) (out : Int32 × (Nat → Nat → Int32)) (e : fX1_countRests n x1 x2 I rv = some out) : mm_T none (d + 4) 9 (mm_ent 9 [(.ref 50), (.int x1), (.int x2)]) (107, I, J, mm_rf rv sp rr w nw) (fun v h => v = some (.int out.1) ∧ h = (107, out.2, J, mm_rf rv sp rr w nw)) := by
  rcases hrv with rfl | rfl
  · unfold fX1_countRests at e
    refine mm_T.seg (f' := (5, [some (.ref 50), some (.int x1), some (.int x2), none, none, none, none, none, none, none, none], [(.int x1), (.ref 37)])) (h' := (107, I, J, mm_rf 3 sp rr w nw)) 3 rfl ?_
    obtain ⟨o1374, eo1374, e⟩ := mm_bind e
    refine mm_T.call (t := 85) (as := [(.ref 37), (.int x1)]) (f' := (8, [some (.ref 50), some (.int x1), some (.int x2), none, none, none, none, none, none, none, none], [])) rfl (tX6_landingBits (d + 0) n x1 I J 3 sp rr w nw (Or.inl rfl) o1374 eo1374) (fun v h hq => ?_)
    obtain ⟨rfl, rfl⟩ := hq
    refine mm_T.seg (f' := (14, [some (.ref 50), some (.int x1), some (.int x2), some (.int o1374), none, none, none, none, none, none, none], [(.int x2), (.ref 37)])) (h' := (107, I, J, mm_rf 3 sp rr w nw)) 4 rfl ?_
    obtain ⟨o1375, eo1375, e⟩ := mm_bind e
    refine mm_T.call (t := 85) (as := [(.ref 37), (.int x2)]) (f' := (17, [some (.ref 50), some (.int x1), some (.int x2), some (.int o1374), none, none, none, none, none, none, none], [])) rfl (tX6_landingBits (d + 0) n x2 I J 3 sp rr w nw (Or.inl rfl) o1375 eo1375) (fun v h hq => ?_)
    obtain ⟨rfl, rfl⟩ := hq
    refine mm_T.seg (f' := (20, [some (.ref 50), some (.int x1), some (.int x2), some (.int o1374), some (.int o1375), none, none, none, none, none, none], [(.int o1374)])) (h' := (107, I, J, mm_rf 3 sp rr w nw)) 2 rfl ?_
    refine mm_T.br (c := o1374 = 0) (a := ((28, [some (.ref 50), some (.int x1), some (.int x2), some (.int o1374), some (.int o1375), none, none, none, none, none, none], []), (107, I, J, mm_rf 3 sp rr w nw))) (b := ((23, [some (.ref 50), some (.int x1), some (.int x2), some (.int o1374), some (.int o1375), none, none, none, none, none, none], []), (107, I, J, mm_rf 3 sp rr w nw))) rfl (fun h1376 => ?_) (fun h1376 => ?_)
    · rw [if_pos h1376] at e
      refine mm_T.seg (f' := (29, [some (.ref 50), some (.int x1), some (.int x2), some (.int o1374), some (.int o1375), none, none, none, none, none, none], [(.int (-1))])) (h' := (107, I, J, mm_rf 3 sp rr w nw)) 1 rfl ?_
      cases e
      exact mm_T.ret rfl ⟨rfl, rfl⟩
    · rw [if_neg h1376] at e
      refine mm_T.seg (f' := (25, [some (.ref 50), some (.int x1), some (.int x2), some (.int o1374), some (.int o1375), none, none, none, none, none, none], [(.int o1375)])) (h' := (107, I, J, mm_rf 3 sp rr w nw)) 1 rfl ?_
      refine mm_T.br (c := o1375 = 0) (a := ((28, [some (.ref 50), some (.int x1), some (.int x2), some (.int o1374), some (.int o1375), none, none, none, none, none, none], []), (107, I, J, mm_rf 3 sp rr w nw))) (b := ((30, [some (.ref 50), some (.int x1), some (.int x2), some (.int o1374), some (.int o1375), none, none, none, none, none, none], []), (107, I, J, mm_rf 3 sp rr w nw))) rfl (fun h1377 => ?_) (fun h1377 => ?_)
      · rw [if_pos h1377] at e
        refine mm_T.seg (f' := (29, [some (.ref 50), some (.int x1), some (.int x2), some (.int o1374), some (.int o1375), none, none, none, none, none, none], [(.int (-1))])) (h' := (107, I, J, mm_rf 3 sp rr w nw)) 1 rfl ?_
        cases e
        exact mm_T.ret rfl ⟨rfl, rfl⟩
      · rw [if_neg h1377] at e
        refine mm_T.seg (f' := (35, [some (.ref 50), some (.int x1), some (.int x2), some (.int o1374), some (.int o1375), none, none, none, none, none, none], [(.int x1), (.ref 18)])) (h' := (107, I, J, mm_rf 3 sp rr w nw)) 3 rfl ?_
        refine mm_T.call (t := 105) (as := [(.ref 18), (.int x1)]) (f' := (38, [some (.ref 50), some (.int x1), some (.int x2), some (.int o1374), some (.int o1375), none, none, none, none, none, none], [])) rfl (tX7_columnOf (d + 1) x1 I J 3 sp rr w nw _ rfl) (fun v h hq => ?_)
        obtain ⟨rfl, rfl⟩ := hq
        refine mm_T.seg (f' := (45, [some (.ref 50), some (.int x1), some (.int x2), some (.int o1374), some (.int o1375), some (.int (fX7_columnOf x1 I)), none, none, none, none, none], [(.int x2), (.ref 18)])) (h' := (107, I, J, mm_rf 3 sp rr w nw)) 4 rfl ?_
        refine mm_T.call (t := 105) (as := [(.ref 18), (.int x2)]) (f' := (48, [some (.ref 50), some (.int x1), some (.int x2), some (.int o1374), some (.int o1375), some (.int (fX7_columnOf x1 I)), none, none, none, none, none], [])) rfl (tX7_columnOf (d + 1) x2 I J 3 sp rr w nw _ rfl) (fun v h hq => ?_)
        obtain ⟨rfl, rfl⟩ := hq
        refine mm_T.seg (f' := (56, [some (.ref 50), some (.int x1), some (.int x2), some (.int o1374), some (.int o1375), some (.int (fX7_columnOf x1 I)), some (.int (fX7_columnOf x2 I)), some (.int 0), some (.int 0), none, none], [])) (h' := (107, I, J, mm_rf 3 sp rr w nw)) 5 rfl ?_
        refine mm_T.mask [true, false, false, true, true, true, true, true, true, false, false] ?_
        obtain ⟨o1396, eo1396, e⟩ := mm_bind e
        refine tlX1_countRests_L56 d _ n o1374 o1375 (fX7_columnOf x1 I) (fX7_columnOf x2 I) 0 0 I J 3 sp rr w nw o1396 eo1396 ?_
        refine mm_T.seg (f' := (184, [none, none, none, none, none, none, none, some (.int o1396.1), none, none, none], [(.int o1396.1)])) (h' := (107, o1396.2, J, mm_rf 3 sp rr w nw)) 1 rfl ?_
        cases e
        exact mm_T.ret rfl ⟨rfl, rfl⟩
  · unfold fX1_countRests at e
    refine mm_T.seg (f' := (5, [some (.ref 50), some (.int x1), some (.int x2), none, none, none, none, none, none, none, none], [(.int x1), (.ref 37)])) (h' := (107, I, J, mm_rf 19 sp rr w nw)) 3 rfl ?_
    obtain ⟨o1374, eo1374, e⟩ := mm_bind e
    refine mm_T.call (t := 85) (as := [(.ref 37), (.int x1)]) (f' := (8, [some (.ref 50), some (.int x1), some (.int x2), none, none, none, none, none, none, none, none], [])) rfl (tX6_landingBits (d + 0) n x1 I J 19 sp rr w nw (Or.inr rfl) o1374 eo1374) (fun v h hq => ?_)
    obtain ⟨rfl, rfl⟩ := hq
    refine mm_T.seg (f' := (14, [some (.ref 50), some (.int x1), some (.int x2), some (.int o1374), none, none, none, none, none, none, none], [(.int x2), (.ref 37)])) (h' := (107, I, J, mm_rf 19 sp rr w nw)) 4 rfl ?_
    obtain ⟨o1375, eo1375, e⟩ := mm_bind e
    refine mm_T.call (t := 85) (as := [(.ref 37), (.int x2)]) (f' := (17, [some (.ref 50), some (.int x1), some (.int x2), some (.int o1374), none, none, none, none, none, none, none], [])) rfl (tX6_landingBits (d + 0) n x2 I J 19 sp rr w nw (Or.inr rfl) o1375 eo1375) (fun v h hq => ?_)
    obtain ⟨rfl, rfl⟩ := hq
    refine mm_T.seg (f' := (20, [some (.ref 50), some (.int x1), some (.int x2), some (.int o1374), some (.int o1375), none, none, none, none, none, none], [(.int o1374)])) (h' := (107, I, J, mm_rf 19 sp rr w nw)) 2 rfl ?_
    refine mm_T.br (c := o1374 = 0) (a := ((28, [some (.ref 50), some (.int x1), some (.int x2), some (.int o1374), some (.int o1375), none, none, none, none, none, none], []), (107, I, J, mm_rf 19 sp rr w nw))) (b := ((23, [some (.ref 50), some (.int x1), some (.int x2), some (.int o1374), some (.int o1375), none, none, none, none, none, none], []), (107, I, J, mm_rf 19 sp rr w nw))) rfl (fun h1376 => ?_) (fun h1376 => ?_)
    · rw [if_pos h1376] at e
      refine mm_T.seg (f' := (29, [some (.ref 50), some (.int x1), some (.int x2), some (.int o1374), some (.int o1375), none, none, none, none, none, none], [(.int (-1))])) (h' := (107, I, J, mm_rf 19 sp rr w nw)) 1 rfl ?_
      cases e
      exact mm_T.ret rfl ⟨rfl, rfl⟩
    · rw [if_neg h1376] at e
      refine mm_T.seg (f' := (25, [some (.ref 50), some (.int x1), some (.int x2), some (.int o1374), some (.int o1375), none, none, none, none, none, none], [(.int o1375)])) (h' := (107, I, J, mm_rf 19 sp rr w nw)) 1 rfl ?_
      refine mm_T.br (c := o1375 = 0) (a := ((28, [some (.ref 50), some (.int x1), some (.int x2), some (.int o1374), some (.int o1375), none, none, none, none, none, none], []), (107, I, J, mm_rf 19 sp rr w nw))) (b := ((30, [some (.ref 50), some (.int x1), some (.int x2), some (.int o1374), some (.int o1375), none, none, none, none, none, none], []), (107, I, J, mm_rf 19 sp rr w nw))) rfl (fun h1377 => ?_) (fun h1377 => ?_)
      · rw [if_pos h1377] at e
        refine mm_T.seg (f' := (29, [some (.ref 50), some (.int x1), some (.int x2), some (.int o1374), some (.int o1375), none, none, none, none, none, none], [(.int (-1))])) (h' := (107, I, J, mm_rf 19 sp rr w nw)) 1 rfl ?_
        cases e
        exact mm_T.ret rfl ⟨rfl, rfl⟩
      · rw [if_neg h1377] at e
        refine mm_T.seg (f' := (35, [some (.ref 50), some (.int x1), some (.int x2), some (.int o1374), some (.int o1375), none, none, none, none, none, none], [(.int x1), (.ref 18)])) (h' := (107, I, J, mm_rf 19 sp rr w nw)) 3 rfl ?_
        refine mm_T.call (t := 105) (as := [(.ref 18), (.int x1)]) (f' := (38, [some (.ref 50), some (.int x1), some (.int x2), some (.int o1374), some (.int o1375), none, none, none, none, none, none], [])) rfl (tX7_columnOf (d + 1) x1 I J 19 sp rr w nw _ rfl) (fun v h hq => ?_)
        obtain ⟨rfl, rfl⟩ := hq
        refine mm_T.seg (f' := (45, [some (.ref 50), some (.int x1), some (.int x2), some (.int o1374), some (.int o1375), some (.int (fX7_columnOf x1 I)), none, none, none, none, none], [(.int x2), (.ref 18)])) (h' := (107, I, J, mm_rf 19 sp rr w nw)) 4 rfl ?_
        refine mm_T.call (t := 105) (as := [(.ref 18), (.int x2)]) (f' := (48, [some (.ref 50), some (.int x1), some (.int x2), some (.int o1374), some (.int o1375), some (.int (fX7_columnOf x1 I)), none, none, none, none, none], [])) rfl (tX7_columnOf (d + 1) x2 I J 19 sp rr w nw _ rfl) (fun v h hq => ?_)
        obtain ⟨rfl, rfl⟩ := hq
        refine mm_T.seg (f' := (56, [some (.ref 50), some (.int x1), some (.int x2), some (.int o1374), some (.int o1375), some (.int (fX7_columnOf x1 I)), some (.int (fX7_columnOf x2 I)), some (.int 0), some (.int 0), none, none], [])) (h' := (107, I, J, mm_rf 19 sp rr w nw)) 5 rfl ?_
        refine mm_T.mask [true, false, false, true, true, true, true, true, true, false, false] ?_
        obtain ⟨o1396, eo1396, e⟩ := mm_bind e
        refine tlX1_countRests_L56 d _ n o1374 o1375 (fX7_columnOf x1 I) (fX7_columnOf x2 I) 0 0 I J 19 sp rr w nw o1396 eo1396 ?_
        refine mm_T.seg (f' := (184, [none, none, none, none, none, none, none, some (.int o1396.1), none, none, none], [(.int o1396.1)])) (h' := (107, o1396.2, J, mm_rf 19 sp rr w nw)) 1 rfl ?_
        cases e
        exact mm_T.ret rfl ⟨rfl, rfl⟩
set_option maxRecDepth 100000 in
set_option maxHeartbeats 4000000 in
theorem tlX2_keep_L2 (d : Nat) (Q : Option Value → mm_H → Prop) : ∀ (n : Nat) (y1 : Int32) (y2 : Int32) (I : Nat → Nat → Int32) (J : Nat → Nat → Int64) (rv sp rr w nw : Nat), ∀ (out : (Nat → Nat → Int32)), fX2_keep_L2 n y1 y2 I = some out → mm_T none (d + 1) 13 (38, [none, none, none], []) (107, out, J, mm_rf rv sp rr w nw) Q → mm_T none (d + 1) 13 (2, [some (.ref 33), some (.int y1), some (.int y2)], []) (107, I, J, mm_rf rv sp rr w nw) Q := by
  intro n
  induction n with
  | zero =>
    intro y1 y2 I J rv sp rr w nw out e k
    rw [fX2_keep_L2] at e; cases e
  | succ n ih =>
    intro y1 y2 I J rv sp rr w nw out e k
    rw [fX2_keep_L2] at e
    refine mm_T.seg (f' := (5, [some (.ref 33), some (.int y1), some (.int y2)], [(.int 28), (.int y2)])) (h' := (107, I, J, mm_rf rv sp rr w nw)) 2 rfl ?_
    refine mm_T.br (c := y2 < 28) (a := ((8, [some (.ref 33), some (.int y1), some (.int y2)], []), (107, I, J, mm_rf rv sp rr w nw))) (b := ((38, [some (.ref 33), some (.int y1), some (.int y2)], []), (107, I, J, mm_rf rv sp rr w nw))) rfl (fun h1397 => ?_) (fun h1397 => ?_)
    · rw [if_pos h1397] at e
      refine mm_T.seg (f' := (26, [some (.ref 33), some (.int y1), some (.int y2)], [(.int y2), (.ref 32), (.int ((y1 * 28) + y2)), (.ref 34)])) (h' := (107, I, J, mm_rf rv sp rr w nw)) 11 rfl ?_
      refine mm_T.call (t := 204) (as := [(.ref 32), (.int y2)]) (f' := (29, [some (.ref 33), some (.int y1), some (.int y2)], [(.int ((y1 * 28) + y2)), (.ref 34)])) rfl (t_pick _ 32 28 y2 I J (mm_rf rv sp rr w nw) rfl rfl) (fun v h hq => ?_)
      obtain ⟨rfl, rfl⟩ := hq
      refine mm_T.call (t := 205) (as := [(.ref 34), (.int ((y1 * 28) + y2)), (.int (mf_pick I 32 28 y2))]) (f' := (32, [some (.ref 33), some (.int y1), some (.int y2)], [])) rfl (t_put _ 34 1232 ((y1 * 28) + y2) (mf_pick I 32 28 y2) I J (mm_rf rv sp rr w nw) rfl rfl) (fun v h hq => ?_)
      obtain ⟨rfl, rfl⟩ := hq
      refine mm_T.seg (f' := (2, [some (.ref 33), some (.int y1), some (.int (y2 + 1))], [])) (h' := (107, (mf_put I 34 1232 ((y1 * 28) + y2) (mf_pick I 32 28 y2)), J, mm_rf rv sp rr w nw)) 2 rfl ?_
      refine mm_T.mask [true, true, true] ?_
      exact ih y1 (y2 + 1) (mf_put I 34 1232 ((y1 * 28) + y2) (mf_pick I 32 28 y2)) J rv sp rr w nw out e k
    · rw [if_neg h1397] at e
      cases e
      refine mm_T.mask [false, false, false] ?_
      exact k
set_option maxRecDepth 100000 in
set_option maxHeartbeats 4000000 in
theorem tX2_keep (d n : Nat) (x1 : Int32) (I : Nat → Nat → Int32) (J : Nat → Nat → Int64) (rv sp rr w nw : Nat) (out : (Nat → Nat → Int32)) (e : fX2_keep n x1 I = some out) : mm_T none (d + 1) 13 (mm_ent 13 [(.ref 33), (.int x1)]) (107, I, J, mm_rf rv sp rr w nw) (fun v h => v = none ∧ h = (107, out, J, mm_rf rv sp rr w nw)) := by
  unfold fX2_keep at e
  refine mm_T.seg (f' := (2, [some (.ref 33), some (.int x1), some (.int 0)], [])) (h' := (107, I, J, mm_rf rv sp rr w nw)) 2 rfl ?_
  refine mm_T.mask [true, true, true] ?_
  obtain ⟨o1398, eo1398, e⟩ := mm_bind e
  refine tlX2_keep_L2 d _ n x1 0 I J rv sp rr w nw o1398 eo1398 ?_
  cases e
  exact mm_T.ret rfl ⟨rfl, rfl⟩
set_option maxRecDepth 100000 in
set_option maxHeartbeats 4000000 in
theorem tlX2_bring_L2 (d : Nat) (Q : Option Value → mm_H → Prop) : ∀ (n : Nat) (y1 : Int32) (y2 : Int32) (I : Nat → Nat → Int32) (J : Nat → Nat → Int64) (rv sp rr w nw : Nat), ∀ (out : (Nat → Nat → Int32)), fX2_bring_L2 n y1 y2 I = some out → mm_T none (d + 1) 14 (38, [none, none, none], []) (107, out, J, mm_rf rv sp rr w nw) Q → mm_T none (d + 1) 14 (2, [some (.ref 33), some (.int y1), some (.int y2)], []) (107, I, J, mm_rf rv sp rr w nw) Q := by
  intro n
  induction n with
  | zero =>
    intro y1 y2 I J rv sp rr w nw out e k
    rw [fX2_bring_L2] at e; cases e
  | succ n ih =>
    intro y1 y2 I J rv sp rr w nw out e k
    rw [fX2_bring_L2] at e
    refine mm_T.seg (f' := (5, [some (.ref 33), some (.int y1), some (.int y2)], [(.int 28), (.int y2)])) (h' := (107, I, J, mm_rf rv sp rr w nw)) 2 rfl ?_
    refine mm_T.br (c := y2 < 28) (a := ((8, [some (.ref 33), some (.int y1), some (.int y2)], []), (107, I, J, mm_rf rv sp rr w nw))) (b := ((38, [some (.ref 33), some (.int y1), some (.int y2)], []), (107, I, J, mm_rf rv sp rr w nw))) rfl (fun h1399 => ?_) (fun h1399 => ?_)
    · rw [if_pos h1399] at e
      refine mm_T.seg (f' := (26, [some (.ref 33), some (.int y1), some (.int y2)], [(.int ((y1 * 28) + y2)), (.ref 34), (.int y2), (.ref 32)])) (h' := (107, I, J, mm_rf rv sp rr w nw)) 11 rfl ?_
      refine mm_T.call (t := 204) (as := [(.ref 34), (.int ((y1 * 28) + y2))]) (f' := (29, [some (.ref 33), some (.int y1), some (.int y2)], [(.int y2), (.ref 32)])) rfl (t_pick _ 34 1232 ((y1 * 28) + y2) I J (mm_rf rv sp rr w nw) rfl rfl) (fun v h hq => ?_)
      obtain ⟨rfl, rfl⟩ := hq
      refine mm_T.call (t := 205) (as := [(.ref 32), (.int y2), (.int (mf_pick I 34 1232 ((y1 * 28) + y2)))]) (f' := (32, [some (.ref 33), some (.int y1), some (.int y2)], [])) rfl (t_put _ 32 28 y2 (mf_pick I 34 1232 ((y1 * 28) + y2)) I J (mm_rf rv sp rr w nw) rfl rfl) (fun v h hq => ?_)
      obtain ⟨rfl, rfl⟩ := hq
      refine mm_T.seg (f' := (2, [some (.ref 33), some (.int y1), some (.int (y2 + 1))], [])) (h' := (107, (mf_put I 32 28 y2 (mf_pick I 34 1232 ((y1 * 28) + y2))), J, mm_rf rv sp rr w nw)) 2 rfl ?_
      refine mm_T.mask [true, true, true] ?_
      exact ih y1 (y2 + 1) (mf_put I 32 28 y2 (mf_pick I 34 1232 ((y1 * 28) + y2))) J rv sp rr w nw out e k
    · rw [if_neg h1399] at e
      cases e
      refine mm_T.mask [false, false, false] ?_
      exact k
set_option maxRecDepth 100000 in
set_option maxHeartbeats 4000000 in
theorem tX2_bring (d n : Nat) (x1 : Int32) (I : Nat → Nat → Int32) (J : Nat → Nat → Int64) (rv sp rr w nw : Nat) (out : (Nat → Nat → Int32)) (e : fX2_bring n x1 I = some out) : mm_T none (d + 1) 14 (mm_ent 14 [(.ref 33), (.int x1)]) (107, I, J, mm_rf rv sp rr w nw) (fun v h => v = none ∧ h = (107, out, J, mm_rf rv sp rr w nw)) := by
  unfold fX2_bring at e
  refine mm_T.seg (f' := (2, [some (.ref 33), some (.int x1), some (.int 0)], [])) (h' := (107, I, J, mm_rf rv sp rr w nw)) 2 rfl ?_
  refine mm_T.mask [true, true, true] ?_
  obtain ⟨o1400, eo1400, e⟩ := mm_bind e
  refine tlX2_bring_L2 d _ n x1 0 I J rv sp rr w nw o1400 eo1400 ?_
  cases e
  exact mm_T.ret rfl ⟨rfl, rfl⟩
set_option maxRecDepth 100000 in
set_option maxHeartbeats 4000000 in
theorem tX2_forgetActs (d : Nat) (I : Nat → Nat → Int32) (J : Nat → Nat → Int64) (rv sp rr w nw : Nat) (out : (Nat → Nat → Int32)) (e : fX2_forgetActs I = out) : mm_T none (d + 0) 15 (mm_ent 15 [(.ref 33)]) (107, I, J, mm_rf rv sp rr w nw) (fun v h => v = none ∧ h = (107, out, J, mm_rf rv sp rr w nw)) := by
  unfold fX2_forgetActs at e
  refine mm_T.seg (f' := (15, [some (.ref 33)], [])) (h' := (107, (mm_up (mm_up (mm_up I 33 3 0) 33 4 0) 33 5 0), J, mm_rf rv sp rr w nw)) 9 rfl ?_
  cases e
  exact mm_T.ret rfl ⟨rfl, rfl⟩
set_option maxRecDepth 100000 in
set_option maxHeartbeats 4000000 in
theorem tX2_beginAct (d n : Nat) (I : Nat → Nat → Int32) (J : Nat → Nat → Int64) (rv sp rr w nw : Nat) (out : (Nat → Nat → Int32)) (e : fX2_beginAct n I = some out) : mm_T none (d + 2) 16 (mm_ent 16 [(.ref 33)]) (107, I, J, mm_rf rv sp rr w nw) (fun v h => v = none ∧ h = (107, out, J, mm_rf rv sp rr w nw)) := by
  unfold fX2_beginAct at e
  refine mm_T.seg (f' := (5, [some (.ref 33)], [(.int (I 33 3)), (.ref 33)])) (h' := (107, I, J, mm_rf rv sp rr w nw)) 3 rfl ?_
  obtain ⟨o1401, eo1401, e⟩ := mm_bind e
  refine mm_T.call (t := 13) (as := [(.ref 33), (.int (I 33 3))]) (f' := (8, [some (.ref 33)], [])) rfl (tX2_keep (d + 0) n (I 33 3) I J rv sp rr w nw o1401 eo1401) (fun v h hq => ?_)
  obtain ⟨rfl, rfl⟩ := hq
  refine mm_T.seg (f' := (30, [some (.ref 33)], [(.int ((o1401 33 4) + 1)), (.int 40), (.ref 33)])) (h' := (107, (mm_up o1401 33 3 (((o1401 33 3) + 1) - ((o1401 33 3) + 1) / 41 * 41)), J, mm_rf rv sp rr w nw)) 14 rfl ?_
  refine mm_T.call (t := 348) (as := [(.int 40), (.int ((o1401 33 4) + 1))]) (f' := (33, [some (.ref 33)], [(.ref 33)])) rfl (tJ9_min (d + 1) 40 ((o1401 33 4) + 1) (mm_up o1401 33 3 (((o1401 33 3) + 1) - ((o1401 33 3) + 1) / 41 * 41)) J rv sp rr w nw _ rfl) (fun v h hq => ?_)
  obtain ⟨rfl, rfl⟩ := hq
  refine mm_T.seg (f' := (41, [some (.ref 33)], [])) (h' := (107, (mm_up (mm_up (mm_up o1401 33 3 (((o1401 33 3) + 1) - ((o1401 33 3) + 1) / 41 * 41)) 33 4 (fJ9_min 40 ((o1401 33 4) + 1))) 33 5 0), J, mm_rf rv sp rr w nw)) 4 rfl ?_
  cases e
  exact mm_T.ret rfl ⟨rfl, rfl⟩
set_option maxRecDepth 100000 in
set_option maxHeartbeats 4000000 in
theorem tX2_takeBack (d n : Nat) (I : Nat → Nat → Int32) (J : Nat → Nat → Int64) (rv sp rr w nw : Nat) (out : Int32 × (Nat → Nat → Int32)) (e : fX2_takeBack n I = some out) : mm_T none (d + 2) 17 (mm_ent 17 [(.ref 33)]) (107, I, J, mm_rf rv sp rr w nw) (fun v h => v = some (.int out.1) ∧ h = (107, out.2, J, mm_rf rv sp rr w nw)) := by
  unfold fX2_takeBack at e
  refine mm_T.seg (f' := (4, [some (.ref 33)], [(.int (I 33 4))])) (h' := (107, I, J, mm_rf rv sp rr w nw)) 2 rfl ?_
  refine mm_T.br (c := 0 < (I 33 4)) (a := ((9, [some (.ref 33)], []), (107, I, J, mm_rf rv sp rr w nw))) (b := ((7, [some (.ref 33)], []), (107, I, J, mm_rf rv sp rr w nw))) rfl (fun h1402 => ?_) (fun h1402 => ?_)
  · rw [if_pos h1402] at e
    refine mm_T.seg (f' := (14, [some (.ref 33)], [(.int (I 33 3)), (.ref 33)])) (h' := (107, I, J, mm_rf rv sp rr w nw)) 3 rfl ?_
    obtain ⟨o1403, eo1403, e⟩ := mm_bind e
    refine mm_T.call (t := 13) (as := [(.ref 33), (.int (I 33 3))]) (f' := (17, [some (.ref 33)], [])) rfl (tX2_keep (d + 0) n (I 33 3) I J rv sp rr w nw o1403 eo1403) (fun v h hq => ?_)
    obtain ⟨rfl, rfl⟩ := hq
    refine mm_T.seg (f' := (38, [some (.ref 33)], [(.int ((((o1403 33 3) + 41) - 1) - (((o1403 33 3) + 41) - 1) / 41 * 41)), (.ref 33)])) (h' := (107, (mm_up o1403 33 3 ((((o1403 33 3) + 41) - 1) - (((o1403 33 3) + 41) - 1) / 41 * 41)), J, mm_rf rv sp rr w nw)) 13 rfl ?_
    obtain ⟨o1404, eo1404, e⟩ := mm_bind e
    refine mm_T.call (t := 14) (as := [(.ref 33), (.int ((((o1403 33 3) + 41) - 1) - (((o1403 33 3) + 41) - 1) / 41 * 41))]) (f' := (41, [some (.ref 33)], [])) rfl (tX2_bring (d + 0) n ((((o1403 33 3) + 41) - 1) - (((o1403 33 3) + 41) - 1) / 41 * 41) (mm_up o1403 33 3 ((((o1403 33 3) + 41) - 1) - (((o1403 33 3) + 41) - 1) / 41 * 41)) J rv sp rr w nw o1404 eo1404) (fun v h hq => ?_)
    obtain ⟨rfl, rfl⟩ := hq
    refine mm_T.seg (f' := (62, [some (.ref 33)], [(.int 1)])) (h' := (107, (mm_up (mm_up o1404 33 4 ((o1404 33 4) - 1)) 33 5 ((o1404 33 5) + 1)), J, mm_rf rv sp rr w nw)) 13 rfl ?_
    cases e
    exact mm_T.ret rfl ⟨rfl, rfl⟩
  · rw [if_neg h1402] at e
    refine mm_T.seg (f' := (8, [some (.ref 33)], [(.int 0)])) (h' := (107, I, J, mm_rf rv sp rr w nw)) 1 rfl ?_
    cases e
    exact mm_T.ret rfl ⟨rfl, rfl⟩
set_option maxRecDepth 100000 in
set_option maxHeartbeats 4000000 in
theorem tX2_doAgain (d n : Nat) (I : Nat → Nat → Int32) (J : Nat → Nat → Int64) (rv sp rr w nw : Nat) (out : Int32 × (Nat → Nat → Int32)) (e : fX2_doAgain n I = some out) : mm_T none (d + 2) 18 (mm_ent 18 [(.ref 33)]) (107, I, J, mm_rf rv sp rr w nw) (fun v h => v = some (.int out.1) ∧ h = (107, out.2, J, mm_rf rv sp rr w nw)) := by
  unfold fX2_doAgain at e
  refine mm_T.seg (f' := (4, [some (.ref 33)], [(.int (I 33 5))])) (h' := (107, I, J, mm_rf rv sp rr w nw)) 2 rfl ?_
  refine mm_T.br (c := 0 < (I 33 5)) (a := ((9, [some (.ref 33)], []), (107, I, J, mm_rf rv sp rr w nw))) (b := ((7, [some (.ref 33)], []), (107, I, J, mm_rf rv sp rr w nw))) rfl (fun h1405 => ?_) (fun h1405 => ?_)
  · rw [if_pos h1405] at e
    refine mm_T.seg (f' := (14, [some (.ref 33)], [(.int (I 33 3)), (.ref 33)])) (h' := (107, I, J, mm_rf rv sp rr w nw)) 3 rfl ?_
    obtain ⟨o1406, eo1406, e⟩ := mm_bind e
    refine mm_T.call (t := 13) (as := [(.ref 33), (.int (I 33 3))]) (f' := (17, [some (.ref 33)], [])) rfl (tX2_keep (d + 0) n (I 33 3) I J rv sp rr w nw o1406 eo1406) (fun v h hq => ?_)
    obtain ⟨rfl, rfl⟩ := hq
    refine mm_T.seg (f' := (35, [some (.ref 33)], [(.int (((o1406 33 3) + 1) - ((o1406 33 3) + 1) / 41 * 41)), (.ref 33)])) (h' := (107, (mm_up o1406 33 3 (((o1406 33 3) + 1) - ((o1406 33 3) + 1) / 41 * 41)), J, mm_rf rv sp rr w nw)) 11 rfl ?_
    obtain ⟨o1407, eo1407, e⟩ := mm_bind e
    refine mm_T.call (t := 14) (as := [(.ref 33), (.int (((o1406 33 3) + 1) - ((o1406 33 3) + 1) / 41 * 41))]) (f' := (38, [some (.ref 33)], [])) rfl (tX2_bring (d + 0) n (((o1406 33 3) + 1) - ((o1406 33 3) + 1) / 41 * 41) (mm_up o1406 33 3 (((o1406 33 3) + 1) - ((o1406 33 3) + 1) / 41 * 41)) J rv sp rr w nw o1407 eo1407) (fun v h hq => ?_)
    obtain ⟨rfl, rfl⟩ := hq
    refine mm_T.seg (f' := (59, [some (.ref 33)], [(.int 1)])) (h' := (107, (mm_up (mm_up o1407 33 4 ((o1407 33 4) + 1)) 33 5 ((o1407 33 5) - 1)), J, mm_rf rv sp rr w nw)) 13 rfl ?_
    cases e
    exact mm_T.ret rfl ⟨rfl, rfl⟩
  · rw [if_neg h1405] at e
    refine mm_T.seg (f' := (8, [some (.ref 33)], [(.int 0)])) (h' := (107, I, J, mm_rf rv sp rr w nw)) 1 rfl ?_
    cases e
    exact mm_T.ret rfl ⟨rfl, rfl⟩
set_option maxRecDepth 100000 in
set_option maxHeartbeats 4000000 in
theorem tX2_emptyBoxes (d : Nat) (I : Nat → Nat → Int32) (J : Nat → Nat → Int64) (rv sp rr w nw : Nat) (out : (Nat → Nat → Int32)) (e : fX2_emptyBoxes I = out) : mm_T none (d + 0) 19 (mm_ent 19 [(.ref 33)]) (107, I, J, mm_rf rv sp rr w nw) (fun v h => v = none ∧ h = (107, out, J, mm_rf rv sp rr w nw)) := by
  unfold fX2_emptyBoxes at e
  refine mm_T.seg (f' := (5, [some (.ref 33)], [])) (h' := (107, (mm_up I 33 2 0), J, mm_rf rv sp rr w nw)) 3 rfl ?_
  cases e
  exact mm_T.ret rfl ⟨rfl, rfl⟩
set_option maxRecDepth 100000 in
set_option maxHeartbeats 4000000 in
theorem tX2_fillBox (d n : Nat) (x1 : Int32) (I : Nat → Nat → Int32) (J : Nat → Nat → Int64) (rv sp rr w nw : Nat) (out : Int32 × (Nat → Nat → Int32)) (e : fX2_fillBox n x1 I = some out) : mm_T none (d + 2) 20 (mm_ent 20 [(.ref 33), (.int x1)]) (107, I, J, mm_rf rv sp rr w nw) (fun v h => v = some (.int out.1) ∧ h = (107, out.2, J, mm_rf rv sp rr w nw)) := by
  unfold fX2_fillBox at e
  refine mm_T.seg (f' := (1, [some (.ref 33), some (.int x1)], [(.int x1)])) (h' := (107, I, J, mm_rf rv sp rr w nw)) 1 rfl ?_
  refine mm_T.br (c := x1 < 0) (a := ((9, [some (.ref 33), some (.int x1)], []), (107, I, J, mm_rf rv sp rr w nw))) (b := ((4, [some (.ref 33), some (.int x1)], []), (107, I, J, mm_rf rv sp rr w nw))) rfl (fun h1408 => ?_) (fun h1408 => ?_)
  · rw [if_pos h1408] at e
    refine mm_T.seg (f' := (10, [some (.ref 33), some (.int x1)], [(.int 0)])) (h' := (107, I, J, mm_rf rv sp rr w nw)) 1 rfl ?_
    cases e
    exact mm_T.ret rfl ⟨rfl, rfl⟩
  · rw [if_neg h1408] at e
    refine mm_T.seg (f' := (6, [some (.ref 33), some (.int x1)], [(.int 3), (.int x1)])) (h' := (107, I, J, mm_rf rv sp rr w nw)) 2 rfl ?_
    refine mm_T.br (c := x1 < 3) (a := ((11, [some (.ref 33), some (.int x1)], []), (107, I, J, mm_rf rv sp rr w nw))) (b := ((9, [some (.ref 33), some (.int x1)], []), (107, I, J, mm_rf rv sp rr w nw))) rfl (fun h1409 => ?_) (fun h1409 => ?_)
    · rw [if_pos h1409] at e
      refine mm_T.seg (f' := (16, [some (.ref 33), some (.int x1)], [(.int (41 + x1)), (.ref 33)])) (h' := (107, I, J, mm_rf rv sp rr w nw)) 4 rfl ?_
      obtain ⟨o1410, eo1410, e⟩ := mm_bind e
      refine mm_T.call (t := 13) (as := [(.ref 33), (.int (41 + x1))]) (f' := (19, [some (.ref 33), some (.int x1)], [])) rfl (tX2_keep (d + 0) n (41 + x1) I J rv sp rr w nw o1410 eo1410) (fun v h hq => ?_)
      obtain ⟨rfl, rfl⟩ := hq
      refine mm_T.seg (f' := (32, [some (.ref 33), some (.int x1)], [(.int 1)])) (h' := (107, (mm_up o1410 33 2 ((o1410 33 2) ||| ((1 : Int32) <<< (x1 &&& 31)))), J, mm_rf rv sp rr w nw)) 9 rfl ?_
      cases e
      exact mm_T.ret rfl ⟨rfl, rfl⟩
    · rw [if_neg h1409] at e
      refine mm_T.seg (f' := (10, [some (.ref 33), some (.int x1)], [(.int 0)])) (h' := (107, I, J, mm_rf rv sp rr w nw)) 1 rfl ?_
      cases e
      exact mm_T.ret rfl ⟨rfl, rfl⟩
set_option maxRecDepth 100000 in
set_option maxHeartbeats 4000000 in
theorem tX2_openBox (d n : Nat) (x1 : Int32) (I : Nat → Nat → Int32) (J : Nat → Nat → Int64) (rv sp rr w nw : Nat) (out : Int32 × (Nat → Nat → Int32)) (e : fX2_openBox n x1 I = some out) : mm_T none (d + 2) 21 (mm_ent 21 [(.ref 33), (.int x1)]) (107, I, J, mm_rf rv sp rr w nw) (fun v h => v = some (.int out.1) ∧ h = (107, out.2, J, mm_rf rv sp rr w nw)) := by
  unfold fX2_openBox at e
  refine mm_T.seg (f' := (1, [some (.ref 33), some (.int x1)], [(.int x1)])) (h' := (107, I, J, mm_rf rv sp rr w nw)) 1 rfl ?_
  refine mm_T.br (c := x1 < 0) (a := ((20, [some (.ref 33), some (.int x1)], []), (107, I, J, mm_rf rv sp rr w nw))) (b := ((4, [some (.ref 33), some (.int x1)], []), (107, I, J, mm_rf rv sp rr w nw))) rfl (fun h1411 => ?_) (fun h1411 => ?_)
  · rw [if_pos h1411] at e
    refine mm_T.seg (f' := (21, [some (.ref 33), some (.int x1)], [(.int 0)])) (h' := (107, I, J, mm_rf rv sp rr w nw)) 1 rfl ?_
    cases e
    exact mm_T.ret rfl ⟨rfl, rfl⟩
  · rw [if_neg h1411] at e
    refine mm_T.seg (f' := (6, [some (.ref 33), some (.int x1)], [(.int 3), (.int x1)])) (h' := (107, I, J, mm_rf rv sp rr w nw)) 2 rfl ?_
    refine mm_T.br (c := x1 < 3) (a := ((9, [some (.ref 33), some (.int x1)], []), (107, I, J, mm_rf rv sp rr w nw))) (b := ((20, [some (.ref 33), some (.int x1)], []), (107, I, J, mm_rf rv sp rr w nw))) rfl (fun h1412 => ?_) (fun h1412 => ?_)
    · rw [if_pos h1412] at e
      refine mm_T.seg (f' := (17, [some (.ref 33), some (.int x1)], [(.int (((I 33 2) >>> (x1 &&& 31)) &&& 1))])) (h' := (107, I, J, mm_rf rv sp rr w nw)) 6 rfl ?_
      refine mm_T.br (c := (((I 33 2) >>> (x1 &&& 31)) &&& 1) = 0) (a := ((20, [some (.ref 33), some (.int x1)], []), (107, I, J, mm_rf rv sp rr w nw))) (b := ((22, [some (.ref 33), some (.int x1)], []), (107, I, J, mm_rf rv sp rr w nw))) rfl (fun h1413 => ?_) (fun h1413 => ?_)
      · rw [if_pos h1413] at e
        refine mm_T.seg (f' := (21, [some (.ref 33), some (.int x1)], [(.int 0)])) (h' := (107, I, J, mm_rf rv sp rr w nw)) 1 rfl ?_
        cases e
        exact mm_T.ret rfl ⟨rfl, rfl⟩
      · rw [if_neg h1413] at e
        refine mm_T.seg (f' := (27, [some (.ref 33), some (.int x1)], [(.int (41 + x1)), (.ref 33)])) (h' := (107, I, J, mm_rf rv sp rr w nw)) 4 rfl ?_
        obtain ⟨o1414, eo1414, e⟩ := mm_bind e
        refine mm_T.call (t := 14) (as := [(.ref 33), (.int (41 + x1))]) (f' := (30, [some (.ref 33), some (.int x1)], [])) rfl (tX2_bring (d + 0) n (41 + x1) I J rv sp rr w nw o1414 eo1414) (fun v h hq => ?_)
        obtain ⟨rfl, rfl⟩ := hq
        refine mm_T.seg (f' := (31, [some (.ref 33), some (.int x1)], [(.ref 33)])) (h' := (107, o1414, J, mm_rf rv sp rr w nw)) 1 rfl ?_
        refine mm_T.call (t := 15) (as := [(.ref 33)]) (f' := (34, [some (.ref 33), some (.int x1)], [])) rfl (tX2_forgetActs (d + 1) o1414 J rv sp rr w nw _ rfl) (fun v h hq => ?_)
        obtain ⟨rfl, rfl⟩ := hq
        refine mm_T.seg (f' := (35, [some (.ref 33), some (.int x1)], [(.int 1)])) (h' := (107, (fX2_forgetActs o1414), J, mm_rf rv sp rr w nw)) 1 rfl ?_
        cases e
        exact mm_T.ret rfl ⟨rfl, rfl⟩
    · rw [if_neg h1412] at e
      refine mm_T.seg (f' := (21, [some (.ref 33), some (.int x1)], [(.int 0)])) (h' := (107, I, J, mm_rf rv sp rr w nw)) 1 rfl ?_
      cases e
      exact mm_T.ret rfl ⟨rfl, rfl⟩
set_option maxRecDepth 100000 in
set_option maxHeartbeats 4000000 in
theorem tX3_clear (d : Nat) (I : Nat → Nat → Int32) (J : Nat → Nat → Int64) (rv sp rr w nw : Nat) (out : (Nat → Nat → Int32)) (e : fX3_clear I = out) : mm_T none (d + 0) 23 (mm_ent 23 [(.ref 35)]) (107, I, J, mm_rf rv sp rr w nw) (fun v h => v = none ∧ h = (107, out, J, mm_rf rv sp rr w nw)) := by
  unfold fX3_clear at e
  refine mm_T.seg (f' := (5, [some (.ref 35)], [])) (h' := (107, (mm_up I 35 1 0), J, mm_rf rv sp rr w nw)) 3 rfl ?_
  cases e
  exact mm_T.ret rfl ⟨rfl, rfl⟩
set_option maxRecDepth 100000 in
set_option maxHeartbeats 4000000 in
theorem tX3_add (d : Nat) (x1 : Int32) (I : Nat → Nat → Int32) (J : Nat → Nat → Int64) (rv sp rr w nw : Nat) (out : (Nat → Nat → Int32)) (e : fX3_add x1 I = some out) : mm_T none (d + 0) 24 (mm_ent 24 [(.ref 35), (.int x1)]) (107, I, J, mm_rf rv sp rr w nw) (fun v h => v = none ∧ h = (107, out, J, mm_rf rv sp rr w nw)) := by
  unfold fX3_add at e
  refine mm_T.seg (f' := (9, [some (.ref 35), some (.int x1)], [(.int 7), (.int (I 35 1))])) (h' := (107, I, J, mm_rf rv sp rr w nw)) 5 rfl ?_
  refine mm_T.br (c := (I 35 1) < 7) (a := ((12, [some (.ref 35), some (.int x1)], []), (107, I, J, mm_rf rv sp rr w nw))) (b := ((32, [some (.ref 35), some (.int x1)], []), (107, I, J, mm_rf rv sp rr w nw))) rfl (fun h1415 => ?_) (fun h1415 => ?_)
  · rw [if_pos h1415] at e
    refine mm_T.seg (f' := (21, [some (.ref 35), some (.int x1)], [(.int x1), (.int (I 35 1)), (.ref 36)])) (h' := (107, I, J, mm_rf rv sp rr w nw)) 5 rfl ?_
    by_cases h1416 : (I 35 1) < 0 ∨ 7 ≤ (I 35 1).toNatClampNeg
    · rw [if_pos h1416] at e; cases e
    rw [if_neg h1416] at e
    refine mm_T.guard (y := ((22, [some (.ref 35), some (.int x1)], []), (107, (mm_up I 36 (I 35 1).toNatClampNeg x1), J, mm_rf rv sp rr w nw))) rfl h1416 ?_
    refine mm_T.seg (f' := (32, [some (.ref 35), some (.int x1)], [])) (h' := (107, (mm_up (mm_up I 36 (I 35 1).toNatClampNeg x1) 35 1 ((I 35 1) + 1)), J, mm_rf rv sp rr w nw)) 6 rfl ?_
    cases e
    exact mm_T.ret rfl ⟨rfl, rfl⟩
  · rw [if_neg h1415] at e
    cases e
    exact mm_T.ret rfl ⟨rfl, rfl⟩
set_option maxRecDepth 100000 in
set_option maxHeartbeats 4000000 in
theorem tX3_numberAt (d : Nat) (x1 : Int32) (I : Nat → Nat → Int32) (J : Nat → Nat → Int64) (rv sp rr w nw : Nat) (out : Int32) (e : fX3_numberAt x1 I = out) : mm_T none (d + 1) 26 (mm_ent 26 [(.ref 35), (.int x1)]) (107, I, J, mm_rf rv sp rr w nw) (fun v h => v = some (.int out) ∧ h = (107, I, J, mm_rf rv sp rr w nw)) := by
  unfold fX3_numberAt at e
  refine mm_T.seg (f' := (1, [some (.ref 35), some (.int x1)], [(.int x1)])) (h' := (107, I, J, mm_rf rv sp rr w nw)) 1 rfl ?_
  refine mm_T.br (c := x1 < 0) (a := ((23, [some (.ref 35), some (.int x1)], []), (107, I, J, mm_rf rv sp rr w nw))) (b := ((4, [some (.ref 35), some (.int x1)], []), (107, I, J, mm_rf rv sp rr w nw))) rfl (fun h1417 => ?_) (fun h1417 => ?_)
  · rw [if_pos h1417] at e
    refine mm_T.seg (f' := (25, [some (.ref 35), some (.int x1)], [(.int (-2))])) (h' := (107, I, J, mm_rf rv sp rr w nw)) 1 rfl ?_
    cases e
    exact mm_T.ret rfl ⟨rfl, rfl⟩
  · rw [if_neg h1417] at e
    refine mm_T.seg (f' := (9, [some (.ref 35), some (.int x1)], [(.int (I 35 1)), (.int x1)])) (h' := (107, I, J, mm_rf rv sp rr w nw)) 3 rfl ?_
    refine mm_T.br (c := x1 < (I 35 1)) (a := ((12, [some (.ref 35), some (.int x1)], []), (107, I, J, mm_rf rv sp rr w nw))) (b := ((23, [some (.ref 35), some (.int x1)], []), (107, I, J, mm_rf rv sp rr w nw))) rfl (fun h1418 => ?_) (fun h1418 => ?_)
    · rw [if_pos h1418] at e
      refine mm_T.seg (f' := (17, [some (.ref 35), some (.int x1)], [(.int x1), (.ref 36)])) (h' := (107, I, J, mm_rf rv sp rr w nw)) 3 rfl ?_
      refine mm_T.call (t := 204) (as := [(.ref 36), (.int x1)]) (f' := (20, [some (.ref 35), some (.int x1)], [])) rfl (t_pick _ 36 7 x1 I J (mm_rf rv sp rr w nw) rfl rfl) (fun v h hq => ?_)
      obtain ⟨rfl, rfl⟩ := hq
      refine mm_T.seg (f' := (25, [some (.ref 35), some (.int x1)], [(.int (mf_pick I 36 7 x1))])) (h' := (107, I, J, mm_rf rv sp rr w nw)) 1 rfl ?_
      cases e
      exact mm_T.ret rfl ⟨rfl, rfl⟩
    · rw [if_neg h1418] at e
      refine mm_T.seg (f' := (25, [some (.ref 35), some (.int x1)], [(.int (-2))])) (h' := (107, I, J, mm_rf rv sp rr w nw)) 1 rfl ?_
      cases e
      exact mm_T.ret rfl ⟨rfl, rfl⟩
set_option maxRecDepth 100000 in
set_option maxHeartbeats 4000000 in
theorem tX4_withLetter (d : Nat) (x0 : Int64) (x2 : Int32) (I : Nat → Nat → Int32) (J : Nat → Nat → Int64) (rv sp rr w nw : Nat) (out : Int64) (e : fX4_withLetter x0 x2 = out) : mm_T none (d + 0) 28 (mm_ent 28 [(.long x0), (.int x2)]) (107, I, J, mm_rf rv sp rr w nw) (fun v h => v = some (.long out) ∧ h = (107, I, J, mm_rf rv sp rr w nw)) := by
  unfold fX4_withLetter at e
  refine mm_T.seg (f' := (13, [some (.long x0), none, some (.int x2)], [(.long ((x0 * 27) + ((x2 - 97) + 1).toInt64))])) (h' := (107, I, J, mm_rf rv sp rr w nw)) 10 rfl ?_
  cases e
  exact mm_T.ret rfl ⟨rfl, rfl⟩
set_option maxRecDepth 100000 in
set_option maxHeartbeats 4000000 in
theorem tX4_refuse (d : Nat) (x1 : Int32) (I : Nat → Nat → Int32) (J : Nat → Nat → Int64) (rv sp rr w nw : Nat) (out : Int32 × (Nat → Nat → Int32)) (e : fX4_refuse x1 I = out) : mm_T none (d + 0) 30 (mm_ent 30 [(.ref 16), (.int x1)]) (107, I, J, mm_rf rv sp rr w nw) (fun v h => v = some (.int out.1) ∧ h = (107, out.2, J, mm_rf rv sp rr w nw)) := by
  unfold fX4_refuse at e
  refine mm_T.seg (f' := (6, [some (.ref 16), some (.int x1)], [(.int 4), (.int (I 16 5)), (.ref 16)])) (h' := (107, I, J, mm_rf rv sp rr w nw)) 4 rfl ?_
  refine mm_T.br (c := (I 16 5) = 4) (a := ((9, [some (.ref 16), some (.int x1)], [(.ref 16)]), (107, I, J, mm_rf rv sp rr w nw))) (b := ((13, [some (.ref 16), some (.int x1)], [(.ref 16)]), (107, I, J, mm_rf rv sp rr w nw))) rfl (fun h1419 => ?_) (fun h1419 => ?_)
  · rw [if_pos h1419] at e
    refine mm_T.seg (f' := (26, [some (.ref 16), some (.int x1)], [(.int 0)])) (h' := (107, (mm_up (mm_up I 16 11 1) 16 12 (I 16 3)), J, mm_rf rv sp rr w nw)) 8 rfl ?_
    cases e
    exact mm_T.ret rfl ⟨rfl, rfl⟩
  · rw [if_neg h1419] at e
    refine mm_T.seg (f' := (26, [some (.ref 16), some (.int x1)], [(.int 0)])) (h' := (107, (mm_up (mm_up I 16 11 x1) 16 12 (I 16 3)), J, mm_rf rv sp rr w nw)) 7 rfl ?_
    cases e
    exact mm_T.ret rfl ⟨rfl, rfl⟩
set_option maxRecDepth 100000 in
set_option maxHeartbeats 4000000 in
theorem tX4_byteAt (d : Nat) (x1 : Int32) (I : Nat → Nat → Int32) (J : Nat → Nat → Int64) (rv sp rr w nw : Nat) (out : Int32) (e : fX4_byteAt x1 I = some out) : mm_T none (d + 0) 31 (mm_ent 31 [(.ref 16), (.int x1)]) (107, I, J, mm_rf rv sp rr w nw) (fun v h => v = some (.int out) ∧ h = (107, I, J, mm_rf rv sp rr w nw)) := by
  unfold fX4_byteAt at e
  refine mm_T.seg (f' := (1, [some (.ref 16), some (.int x1)], [(.int x1)])) (h' := (107, I, J, mm_rf rv sp rr w nw)) 1 rfl ?_
  refine mm_T.br (c := x1 < 0) (a := ((34, [some (.ref 16), some (.int x1)], []), (107, I, J, mm_rf rv sp rr w nw))) (b := ((4, [some (.ref 16), some (.int x1)], []), (107, I, J, mm_rf rv sp rr w nw))) rfl (fun h1420 => ?_) (fun h1420 => ?_)
  · rw [if_pos h1420] at e
    refine mm_T.seg (f' := (35, [some (.ref 16), some (.int x1)], [(.int 0)])) (h' := (107, I, J, mm_rf rv sp rr w nw)) 1 rfl ?_
    cases e
    exact mm_T.ret rfl ⟨rfl, rfl⟩
  · rw [if_neg h1420] at e
    refine mm_T.seg (f' := (9, [some (.ref 16), some (.int x1)], [(.int (I 16 2)), (.int x1)])) (h' := (107, I, J, mm_rf rv sp rr w nw)) 3 rfl ?_
    refine mm_T.br (c := x1 < (I 16 2)) (a := ((12, [some (.ref 16), some (.int x1)], []), (107, I, J, mm_rf rv sp rr w nw))) (b := ((34, [some (.ref 16), some (.int x1)], []), (107, I, J, mm_rf rv sp rr w nw))) rfl (fun h1421 => ?_) (fun h1421 => ?_)
    · rw [if_pos h1421] at e
      refine mm_T.seg (f' := (18, [some (.ref 16), some (.int x1)], [(.int 1600), (.int x1)])) (h' := (107, I, J, mm_rf rv sp rr w nw)) 4 rfl ?_
      refine mm_T.br (c := x1 < 1600) (a := ((21, [some (.ref 16), some (.int x1)], []), (107, I, J, mm_rf rv sp rr w nw))) (b := ((34, [some (.ref 16), some (.int x1)], []), (107, I, J, mm_rf rv sp rr w nw))) rfl (fun h1422 => ?_) (fun h1422 => ?_)
      · rw [if_pos h1422] at e
        refine mm_T.seg (f' := (26, [some (.ref 16), some (.int x1)], [(.int x1), (.ref 2)])) (h' := (107, I, J, mm_rf rv sp rr w nw)) 3 rfl ?_
        by_cases h1423 : x1 < 0 ∨ 1600 ≤ x1.toNatClampNeg
        · rw [if_pos h1423] at e; cases e
        rw [if_neg h1423] at e
        refine mm_T.guard (y := ((27, [some (.ref 16), some (.int x1)], [(.int (I 2 x1.toNatClampNeg))]), (107, I, J, mm_rf rv sp rr w nw))) rfl h1423 ?_
        refine mm_T.seg (f' := (35, [some (.ref 16), some (.int x1)], [(.int ((I 2 x1.toNatClampNeg) &&& 255))])) (h' := (107, I, J, mm_rf rv sp rr w nw)) 3 rfl ?_
        cases e
        exact mm_T.ret rfl ⟨rfl, rfl⟩
      · rw [if_neg h1422] at e
        refine mm_T.seg (f' := (35, [some (.ref 16), some (.int x1)], [(.int 0)])) (h' := (107, I, J, mm_rf rv sp rr w nw)) 1 rfl ?_
        cases e
        exact mm_T.ret rfl ⟨rfl, rfl⟩
    · rw [if_neg h1421] at e
      refine mm_T.seg (f' := (35, [some (.ref 16), some (.int x1)], [(.int 0)])) (h' := (107, I, J, mm_rf rv sp rr w nw)) 1 rfl ?_
      cases e
      exact mm_T.ret rfl ⟨rfl, rfl⟩
set_option maxRecDepth 100000 in
set_option maxHeartbeats 4000000 in
theorem tX4_isLetter (d : Nat) (x0 : Int32) (I : Nat → Nat → Int32) (J : Nat → Nat → Int64) (rv sp rr w nw : Nat) (out : Int32) (e : fX4_isLetter x0 = out) : mm_T none (d + 0) 32 (mm_ent 32 [(.int x0)]) (107, I, J, mm_rf rv sp rr w nw) (fun v h => v = some (.int out) ∧ h = (107, I, J, mm_rf rv sp rr w nw)) := by
  unfold fX4_isLetter at e
  refine mm_T.seg (f' := (3, [some (.int x0)], [(.int 97), (.int x0)])) (h' := (107, I, J, mm_rf rv sp rr w nw)) 2 rfl ?_
  refine mm_T.br (c := x0 < 97) (a := ((16, [some (.int x0)], []), (107, I, J, mm_rf rv sp rr w nw))) (b := ((6, [some (.int x0)], []), (107, I, J, mm_rf rv sp rr w nw))) rfl (fun h1424 => ?_) (fun h1424 => ?_)
  · rw [if_pos h1424] at e
    refine mm_T.seg (f' := (17, [some (.int x0)], [(.int 0)])) (h' := (107, I, J, mm_rf rv sp rr w nw)) 1 rfl ?_
    cases e
    exact mm_T.ret rfl ⟨rfl, rfl⟩
  · rw [if_neg h1424] at e
    refine mm_T.seg (f' := (9, [some (.int x0)], [(.int 122), (.int x0)])) (h' := (107, I, J, mm_rf rv sp rr w nw)) 2 rfl ?_
    refine mm_T.br (c := 122 < x0) (a := ((16, [some (.int x0)], []), (107, I, J, mm_rf rv sp rr w nw))) (b := ((12, [some (.int x0)], []), (107, I, J, mm_rf rv sp rr w nw))) rfl (fun h1425 => ?_) (fun h1425 => ?_)
    · rw [if_pos h1425] at e
      refine mm_T.seg (f' := (17, [some (.int x0)], [(.int 0)])) (h' := (107, I, J, mm_rf rv sp rr w nw)) 1 rfl ?_
      cases e
      exact mm_T.ret rfl ⟨rfl, rfl⟩
    · rw [if_neg h1425] at e
      refine mm_T.seg (f' := (17, [some (.int x0)], [(.int 1)])) (h' := (107, I, J, mm_rf rv sp rr w nw)) 2 rfl ?_
      cases e
      exact mm_T.ret rfl ⟨rfl, rfl⟩
set_option maxRecDepth 100000 in
set_option maxHeartbeats 4000000 in
theorem tX4_isDigit (d : Nat) (x0 : Int32) (I : Nat → Nat → Int32) (J : Nat → Nat → Int64) (rv sp rr w nw : Nat) (out : Int32) (e : fX4_isDigit x0 = out) : mm_T none (d + 0) 33 (mm_ent 33 [(.int x0)]) (107, I, J, mm_rf rv sp rr w nw) (fun v h => v = some (.int out) ∧ h = (107, I, J, mm_rf rv sp rr w nw)) := by
  unfold fX4_isDigit at e
  refine mm_T.seg (f' := (3, [some (.int x0)], [(.int 48), (.int x0)])) (h' := (107, I, J, mm_rf rv sp rr w nw)) 2 rfl ?_
  refine mm_T.br (c := x0 < 48) (a := ((16, [some (.int x0)], []), (107, I, J, mm_rf rv sp rr w nw))) (b := ((6, [some (.int x0)], []), (107, I, J, mm_rf rv sp rr w nw))) rfl (fun h1426 => ?_) (fun h1426 => ?_)
  · rw [if_pos h1426] at e
    refine mm_T.seg (f' := (17, [some (.int x0)], [(.int 0)])) (h' := (107, I, J, mm_rf rv sp rr w nw)) 1 rfl ?_
    cases e
    exact mm_T.ret rfl ⟨rfl, rfl⟩
  · rw [if_neg h1426] at e
    refine mm_T.seg (f' := (9, [some (.int x0)], [(.int 57), (.int x0)])) (h' := (107, I, J, mm_rf rv sp rr w nw)) 2 rfl ?_
    refine mm_T.br (c := 57 < x0) (a := ((16, [some (.int x0)], []), (107, I, J, mm_rf rv sp rr w nw))) (b := ((12, [some (.int x0)], []), (107, I, J, mm_rf rv sp rr w nw))) rfl (fun h1427 => ?_) (fun h1427 => ?_)
    · rw [if_pos h1427] at e
      refine mm_T.seg (f' := (17, [some (.int x0)], [(.int 0)])) (h' := (107, I, J, mm_rf rv sp rr w nw)) 1 rfl ?_
      cases e
      exact mm_T.ret rfl ⟨rfl, rfl⟩
    · rw [if_neg h1427] at e
      refine mm_T.seg (f' := (17, [some (.int x0)], [(.int 1)])) (h' := (107, I, J, mm_rf rv sp rr w nw)) 2 rfl ?_
      cases e
      exact mm_T.ret rfl ⟨rfl, rfl⟩
set_option maxRecDepth 100000 in
set_option maxHeartbeats 4000000 in
theorem tJ0_isLatin1_x2 (d : Nat) (I : Nat → Nat → Int32) (J : Nat → Nat → Int64) (rv sp rr w nw : Nat) (out : Int32) (e : fJ0_isLatin1_x2 = out) : mm_T none (d + 0) 337 (mm_ent 337 [(.retAddr 2)]) (107, I, J, mm_rf rv sp rr w nw) (fun v h => v = some (.int out) ∧ h = (107, I, J, mm_rf rv sp rr w nw)) := by
  unfold fJ0_isLatin1_x2 at e
  refine mm_T.seg (f' := (18, [some (.retAddr 2)], [(.int 1)])) (h' := (107, I, J, mm_rf rv sp rr w nw)) 7 rfl ?_
  cases e
  exact mm_T.ret rfl ⟨rfl, rfl⟩
set_option maxRecDepth 100000 in
set_option maxHeartbeats 4000000 in
theorem tJ0_coder_x2 (d : Nat) (I : Nat → Nat → Int32) (J : Nat → Nat → Int64) (rv sp rr w nw : Nat) (out : Int32) (e : fJ0_coder_x2 = out) : mm_T none (d + 0) 336 (mm_ent 336 [(.retAddr 2)]) (107, I, J, mm_rf rv sp rr w nw) (fun v h => v = some (.int out) ∧ h = (107, I, J, mm_rf rv sp rr w nw)) := by
  unfold fJ0_coder_x2 at e
  refine mm_T.seg (f' := (14, [some (.retAddr 2)], [(.int 0)])) (h' := (107, I, J, mm_rf rv sp rr w nw)) 5 rfl ?_
  cases e
  exact mm_T.ret rfl ⟨rfl, rfl⟩
set_option maxRecDepth 100000 in
set_option maxHeartbeats 4000000 in
theorem tJ0_length_x2 (d : Nat) (I : Nat → Nat → Int32) (J : Nat → Nat → Int64) (rv sp rr w nw : Nat) (out : Int32) (e : fJ0_length_x2 = out) : mm_T none (d + 1) 332 (mm_ent 332 [(.retAddr 2)]) (107, I, J, mm_rf rv sp rr w nw) (fun v h => v = some (.int out) ∧ h = (107, I, J, mm_rf rv sp rr w nw)) := by
  unfold fJ0_length_x2 at e
  refine mm_T.seg (f' := (6, [some (.retAddr 2)], [(.retAddr 2), (.int 11)])) (h' := (107, I, J, mm_rf rv sp rr w nw)) 4 rfl ?_
  refine mm_T.call (t := 336) (as := [(.retAddr 2)]) (f' := (9, [some (.retAddr 2)], [(.int 11)])) rfl (tJ0_coder_x2 (d + 0) I J rv sp rr w nw _ rfl) (fun v h hq => ?_)
  obtain ⟨rfl, rfl⟩ := hq
  refine mm_T.seg (f' := (10, [some (.retAddr 2)], [(.int ((11 : Int32) >>> ((0 : Int32) &&& 31)))])) (h' := (107, I, J, mm_rf rv sp rr w nw)) 1 rfl ?_
  cases e
  exact mm_T.ret rfl ⟨rfl, rfl⟩
set_option maxRecDepth 100000 in
set_option maxHeartbeats 4000000 in
theorem tJ1_canEncode (d : Nat) (x0 : Int32) (I : Nat → Nat → Int32) (J : Nat → Nat → Int64) (rv sp rr w nw : Nat) (out : Int32) (e : fJ1_canEncode x0 = out) : mm_T none (d + 0) 340 (mm_ent 340 [(.int x0)]) (107, I, J, mm_rf rv sp rr w nw) (fun v h => v = some (.int out) ∧ h = (107, I, J, mm_rf rv sp rr w nw)) := by
  unfold fJ1_canEncode at e
  refine mm_T.seg (f' := (1, [some (.int x0)], [(.int x0)])) (h' := (107, I, J, mm_rf rv sp rr w nw)) 1 rfl ?_
  refine mm_T.br (c := x0 < 0) (a := ((15, [some (.int x0)], []), (107, I, J, mm_rf rv sp rr w nw))) (b := ((4, [some (.int x0)], []), (107, I, J, mm_rf rv sp rr w nw))) rfl (fun h1445 => ?_) (fun h1445 => ?_)
  · rw [if_pos h1445] at e
    refine mm_T.seg (f' := (16, [some (.int x0)], [(.int 0)])) (h' := (107, I, J, mm_rf rv sp rr w nw)) 1 rfl ?_
    cases e
    exact mm_T.ret rfl ⟨rfl, rfl⟩
  · rw [if_neg h1445] at e
    refine mm_T.seg (f' := (8, [some (.int x0)], [(.int 255), (.int x0)])) (h' := (107, I, J, mm_rf rv sp rr w nw)) 2 rfl ?_
    refine mm_T.br (c := 255 < x0) (a := ((15, [some (.int x0)], []), (107, I, J, mm_rf rv sp rr w nw))) (b := ((11, [some (.int x0)], []), (107, I, J, mm_rf rv sp rr w nw))) rfl (fun h1446 => ?_) (fun h1446 => ?_)
    · rw [if_pos h1446] at e
      refine mm_T.seg (f' := (16, [some (.int x0)], [(.int 0)])) (h' := (107, I, J, mm_rf rv sp rr w nw)) 1 rfl ?_
      cases e
      exact mm_T.ret rfl ⟨rfl, rfl⟩
    · rw [if_neg h1446] at e
      refine mm_T.seg (f' := (16, [some (.int x0)], [(.int 1)])) (h' := (107, I, J, mm_rf rv sp rr w nw)) 2 rfl ?_
      cases e
      exact mm_T.ret rfl ⟨rfl, rfl⟩
set_option maxRecDepth 100000 in
set_option maxHeartbeats 4000000 in
theorem tlJ1_indexOfChar_x4_L7 (d : Nat) (Q : Option Value → mm_H → Prop) : ∀ (n : Nat) (y3 : Int32) (y4 : Int32) (y5 : Int32) (I : Nat → Nat → Int32) (J : Nat → Nat → Int64) (rv sp rr w nw : Nat), ∀ (out : (Int32 ⊕ (Unit))), fJ1_indexOfChar_x4_L7 n y3 y4 y5 = some out → (∀ (r : Int32), out = .inl r → Q (some (.int r)) (107, I, J, mm_rf rv sp rr w nw)) → (∀ (y : Unit), out = .inr y → mm_T none (d + 0) 342 (31, [none, none, none, none, none, none], []) (107, I, J, mm_rf rv sp rr w nw) Q) → mm_T none (d + 0) 342 (7, [some (.retAddr 4), none, none, some (.int y3), some (.int y4), some (.int y5)], []) (107, I, J, mm_rf rv sp rr w nw) Q := by
  intro n
  induction n with
  | zero =>
    intro y3 y4 y5 I J rv sp rr w nw out e kr ke
    rw [fJ1_indexOfChar_x4_L7] at e; cases e
  | succ n ih =>
    intro y3 y4 y5 I J rv sp rr w nw out e kr ke
    rw [fJ1_indexOfChar_x4_L7] at e
    refine mm_T.seg (f' := (10, [some (.retAddr 4), none, none, some (.int y3), some (.int y4), some (.int y5)], [(.int y3), (.int y5)])) (h' := (107, I, J, mm_rf rv sp rr w nw)) 2 rfl ?_
    refine mm_T.br (c := y5 < y3) (a := ((13, [some (.retAddr 4), none, none, some (.int y3), some (.int y4), some (.int y5)], []), (107, I, J, mm_rf rv sp rr w nw))) (b := ((31, [some (.retAddr 4), none, none, some (.int y3), some (.int y4), some (.int y5)], []), (107, I, J, mm_rf rv sp rr w nw))) rfl (fun h1449 => ?_) (fun h1449 => ?_)
    · rw [if_pos h1449] at e
      refine mm_T.seg (f' := (16, [some (.retAddr 4), none, none, some (.int y3), some (.int y4), some (.int y5)], [(.int y5), (.retAddr 4)])) (h' := (107, I, J, mm_rf rv sp rr w nw)) 2 rfl ?_
      by_cases h1450 : y5 < 0 ∨ mm_sb2.length ≤ y5.toNatClampNeg
      · rw [if_pos h1450] at e; cases e
      rw [if_neg h1450] at e
      refine mm_T.guard (y := ((17, [some (.retAddr 4), none, none, some (.int y3), some (.int y4), some (.int y5)], [(.int (mm_sb2.getD y5.toNatClampNeg 0))]), (107, I, J, mm_rf rv sp rr w nw))) rfl h1450 ?_
      refine mm_T.seg (f' := (19, [some (.retAddr 4), none, none, some (.int y3), some (.int y4), some (.int y5)], [(.int y4), (.int (mm_sb2.getD y5.toNatClampNeg 0))])) (h' := (107, I, J, mm_rf rv sp rr w nw)) 1 rfl ?_
      refine mm_T.br (c := (mm_sb2.getD y5.toNatClampNeg 0) = y4) (a := ((22, [some (.retAddr 4), none, none, some (.int y3), some (.int y4), some (.int y5)], []), (107, I, J, mm_rf rv sp rr w nw))) (b := ((25, [some (.retAddr 4), none, none, some (.int y3), some (.int y4), some (.int y5)], []), (107, I, J, mm_rf rv sp rr w nw))) rfl (fun h1451 => ?_) (fun h1451 => ?_)
      · rw [if_pos h1451] at e
        refine mm_T.seg (f' := (24, [some (.retAddr 4), none, none, some (.int y3), some (.int y4), some (.int y5)], [(.int y5)])) (h' := (107, I, J, mm_rf rv sp rr w nw)) 1 rfl ?_
        cases e
        exact mm_T.ret rfl (kr _ rfl)
      · rw [if_neg h1451] at e
        refine mm_T.seg (f' := (7, [some (.retAddr 4), none, none, some (.int y3), some (.int y4), some (.int (y5 + 1))], [])) (h' := (107, I, J, mm_rf rv sp rr w nw)) 2 rfl ?_
        refine mm_T.mask [true, false, false, true, true, true] ?_
        exact ih y3 y4 (y5 + 1) I J rv sp rr w nw out e kr ke
    · rw [if_neg h1449] at e
      cases e
      refine mm_T.mask [false, false, false, false, false, false] ?_
      exact ke _ rfl
set_option maxRecDepth 100000 in
set_option maxHeartbeats 4000000 in
theorem tJ1_indexOfChar_x4 (d n : Nat) (x1 : Int32) (x2 : Int32) (x3 : Int32) (I : Nat → Nat → Int32) (J : Nat → Nat → Int64) (rv sp rr w nw : Nat) (out : Int32) (e : fJ1_indexOfChar_x4 n x1 x2 x3 = some out) : mm_T none (d + 0) 342 (mm_ent 342 [(.retAddr 4), (.int x1), (.int x2), (.int x3)]) (107, I, J, mm_rf rv sp rr w nw) (fun v h => v = some (.int out) ∧ h = (107, I, J, mm_rf rv sp rr w nw)) := by
  unfold fJ1_indexOfChar_x4 at e
  refine mm_T.seg (f' := (7, [some (.retAddr 4), some (.int x1), some (.int x2), some (.int x3), some (.int x1.toInt8.toInt32), some (.int x2)], [])) (h' := (107, I, J, mm_rf rv sp rr w nw)) 5 rfl ?_
  refine mm_T.mask [true, false, false, true, true, true] ?_
  obtain ⟨o1452, eo1452, e⟩ := mm_bind e
  rcases o1452 with va1453 | vb1453
  · cases e
    refine tlJ1_indexOfChar_x4_L7 d _ n x3 x1.toInt8.toInt32 x2 I J rv sp rr w nw _ eo1452 (fun z hz => ?_) (fun z hz => ?_)
    · cases hz; exact ⟨rfl, rfl⟩
    · cases hz
  · refine tlJ1_indexOfChar_x4_L7 d _ n x3 x1.toInt8.toInt32 x2 I J rv sp rr w nw (.inr vb1453) eo1452 (fun z hz => ?_) (fun z hz => ?_)
    · cases hz
    · cases hz
      refine mm_T.seg (f' := (32, [none, none, none, none, none, none], [(.int (-1))])) (h' := (107, I, J, mm_rf rv sp rr w nw)) 1 rfl ?_
      cases e
      exact mm_T.ret rfl ⟨rfl, rfl⟩
set_option maxRecDepth 100000 in
set_option maxHeartbeats 4000000 in
theorem tJ1_indexOf_x4 (d n : Nat) (x1 : Int32) (x2 : Int32) (x3 : Int32) (I : Nat → Nat → Int32) (J : Nat → Nat → Int64) (rv sp rr w nw : Nat) (out : Int32) (e : fJ1_indexOf_x4 n x1 x2 x3 = some out) : mm_T none (d + 1) 341 (mm_ent 341 [(.retAddr 4), (.int x1), (.int x2), (.int x3)]) (107, I, J, mm_rf rv sp rr w nw) (fun v h => v = some (.int out) ∧ h = (107, I, J, mm_rf rv sp rr w nw)) := by
  unfold fJ1_indexOf_x4 at e
  refine mm_T.seg (f' := (1, [some (.retAddr 4), some (.int x1), some (.int x2), some (.int x3)], [(.int x1)])) (h' := (107, I, J, mm_rf rv sp rr w nw)) 1 rfl ?_
  refine mm_T.call (t := 340) (as := [(.int x1)]) (f' := (4, [some (.retAddr 4), some (.int x1), some (.int x2), some (.int x3)], [])) rfl (tJ1_canEncode (d + 0) x1 I J rv sp rr w nw _ rfl) (fun v h hq => ?_)
  obtain ⟨rfl, rfl⟩ := hq
  refine mm_T.br (c := (fJ1_canEncode x1) = 0) (a := ((7, [some (.retAddr 4), some (.int x1), some (.int x2), some (.int x3)], []), (107, I, J, mm_rf rv sp rr w nw))) (b := ((9, [some (.retAddr 4), some (.int x1), some (.int x2), some (.int x3)], []), (107, I, J, mm_rf rv sp rr w nw))) rfl (fun h1447 => ?_) (fun h1447 => ?_)
  · rw [if_pos h1447] at e
    refine mm_T.seg (f' := (8, [some (.retAddr 4), some (.int x1), some (.int x2), some (.int x3)], [(.int (-1))])) (h' := (107, I, J, mm_rf rv sp rr w nw)) 1 rfl ?_
    cases e
    exact mm_T.ret rfl ⟨rfl, rfl⟩
  · rw [if_neg h1447] at e
    refine mm_T.seg (f' := (11, [some (.retAddr 4), some (.int x1), some (.int x2), some (.int x3)], [(.int 0), (.int x2)])) (h' := (107, I, J, mm_rf rv sp rr w nw)) 2 rfl ?_
    refine mm_T.call (t := 347) (as := [(.int x2), (.int 0)]) (f' := (14, [some (.retAddr 4), some (.int x1), some (.int x2), some (.int x3)], [])) rfl (tJ9_max (d + 0) x2 0 I J rv sp rr w nw _ rfl) (fun v h hq => ?_)
    obtain ⟨rfl, rfl⟩ := hq
    refine mm_T.seg (f' := (18, [some (.retAddr 4), some (.int x1), some (.int (fJ9_max x2 0)), some (.int x3)], [(.int 11), (.int x3)])) (h' := (107, I, J, mm_rf rv sp rr w nw)) 4 rfl ?_
    refine mm_T.call (t := 348) (as := [(.int x3), (.int 11)]) (f' := (21, [some (.retAddr 4), some (.int x1), some (.int (fJ9_max x2 0)), some (.int x3)], [])) rfl (tJ9_min (d + 0) x3 11 I J rv sp rr w nw _ rfl) (fun v h hq => ?_)
    obtain ⟨rfl, rfl⟩ := hq
    refine mm_T.seg (f' := (24, [some (.retAddr 4), some (.int x1), some (.int (fJ9_max x2 0)), some (.int (fJ9_min x3 11))], [(.int (fJ9_min x3 11)), (.int (fJ9_max x2 0))])) (h' := (107, I, J, mm_rf rv sp rr w nw)) 3 rfl ?_
    refine mm_T.br (c := (fJ9_max x2 0) < (fJ9_min x3 11)) (a := ((29, [some (.retAddr 4), some (.int x1), some (.int (fJ9_max x2 0)), some (.int (fJ9_min x3 11))], []), (107, I, J, mm_rf rv sp rr w nw))) (b := ((27, [some (.retAddr 4), some (.int x1), some (.int (fJ9_max x2 0)), some (.int (fJ9_min x3 11))], []), (107, I, J, mm_rf rv sp rr w nw))) rfl (fun h1448 => ?_) (fun h1448 => ?_)
    · rw [if_pos h1448] at e
      refine mm_T.seg (f' := (33, [some (.retAddr 4), some (.int x1), some (.int (fJ9_max x2 0)), some (.int (fJ9_min x3 11))], [(.int (fJ9_min x3 11)), (.int (fJ9_max x2 0)), (.int x1), (.retAddr 4)])) (h' := (107, I, J, mm_rf rv sp rr w nw)) 4 rfl ?_
      obtain ⟨o1454, eo1454, e⟩ := mm_bind e
      refine mm_T.call (t := 342) (as := [(.retAddr 4), (.int x1), (.int (fJ9_max x2 0)), (.int (fJ9_min x3 11))]) (f' := (36, [some (.retAddr 4), some (.int x1), some (.int (fJ9_max x2 0)), some (.int (fJ9_min x3 11))], [])) rfl (tJ1_indexOfChar_x4 (d + 0) n x1 (fJ9_max x2 0) (fJ9_min x3 11) I J rv sp rr w nw o1454 eo1454) (fun v h hq => ?_)
      obtain ⟨rfl, rfl⟩ := hq
      cases e
      exact mm_T.ret rfl ⟨rfl, rfl⟩
    · rw [if_neg h1448] at e
      refine mm_T.seg (f' := (28, [some (.retAddr 4), some (.int x1), some (.int (fJ9_max x2 0)), some (.int (fJ9_min x3 11))], [(.int (-1))])) (h' := (107, I, J, mm_rf rv sp rr w nw)) 1 rfl ?_
      cases e
      exact mm_T.ret rfl ⟨rfl, rfl⟩
set_option maxRecDepth 100000 in
set_option maxHeartbeats 4000000 in
theorem tJ0_indexOf_x2' (d n : Nat) (x1 : Int32) (x2 : Int32) (I : Nat → Nat → Int32) (J : Nat → Nat → Int64) (rv sp rr w nw : Nat) (out : Int32) (e : fJ0_indexOf_x2' n x1 x2 = some out) : mm_T none (d + 2) 335 (mm_ent 335 [(.retAddr 2), (.int x1), (.int x2)]) (107, I, J, mm_rf rv sp rr w nw) (fun v h => v = some (.int out) ∧ h = (107, I, J, mm_rf rv sp rr w nw)) := by
  unfold fJ0_indexOf_x2' at e
  refine mm_T.seg (f' := (1, [some (.retAddr 2), some (.int x1), some (.int x2)], [(.retAddr 2)])) (h' := (107, I, J, mm_rf rv sp rr w nw)) 1 rfl ?_
  refine mm_T.call (t := 337) (as := [(.retAddr 2)]) (f' := (4, [some (.retAddr 2), some (.int x1), some (.int x2)], [])) rfl (tJ0_isLatin1_x2 (d + 1) I J rv sp rr w nw _ rfl) (fun v h hq => ?_)
  obtain ⟨rfl, rfl⟩ := hq
  refine mm_T.seg (f' := (14, [some (.retAddr 2), some (.int x1), some (.int x2)], [(.retAddr 2), (.int x2), (.int x1), (.retAddr 4)])) (h' := (107, I, J, mm_rf rv sp rr w nw)) 6 rfl ?_
  refine mm_T.call (t := 332) (as := [(.retAddr 2)]) (f' := (17, [some (.retAddr 2), some (.int x1), some (.int x2)], [(.int x2), (.int x1), (.retAddr 4)])) rfl (tJ0_length_x2 (d + 0) I J rv sp rr w nw _ rfl) (fun v h hq => ?_)
  obtain ⟨rfl, rfl⟩ := hq
  obtain ⟨o1455, eo1455, e⟩ := mm_bind e
  refine mm_T.call (t := 341) (as := [(.retAddr 4), (.int x1), (.int x2), (.int (fJ0_length_x2))]) (f' := (20, [some (.retAddr 2), some (.int x1), some (.int x2)], [])) rfl (tJ1_indexOf_x4 (d + 0) n x1 x2 (fJ0_length_x2) I J rv sp rr w nw o1455 eo1455) (fun v h hq => ?_)
  obtain ⟨rfl, rfl⟩ := hq
  refine mm_T.seg (f' := (36, [some (.retAddr 2), some (.int x1), some (.int x2)], [(.int o1455)])) (h' := (107, I, J, mm_rf rv sp rr w nw)) 1 rfl ?_
  cases e
  exact mm_T.ret rfl ⟨rfl, rfl⟩
set_option maxRecDepth 100000 in
set_option maxHeartbeats 4000000 in
theorem tJ0_indexOf_x2 (d n : Nat) (x1 : Int32) (I : Nat → Nat → Int32) (J : Nat → Nat → Int64) (rv sp rr w nw : Nat) (out : Int32) (e : fJ0_indexOf_x2 n x1 = some out) : mm_T none (d + 3) 334 (mm_ent 334 [(.retAddr 2), (.int x1)]) (107, I, J, mm_rf rv sp rr w nw) (fun v h => v = some (.int out) ∧ h = (107, I, J, mm_rf rv sp rr w nw)) := by
  unfold fJ0_indexOf_x2 at e
  refine mm_T.seg (f' := (3, [some (.retAddr 2), some (.int x1)], [(.int 0), (.int x1), (.retAddr 2)])) (h' := (107, I, J, mm_rf rv sp rr w nw)) 3 rfl ?_
  obtain ⟨o1456, eo1456, e⟩ := mm_bind e
  refine mm_T.call (t := 335) (as := [(.retAddr 2), (.int x1), (.int 0)]) (f' := (6, [some (.retAddr 2), some (.int x1)], [])) rfl (tJ0_indexOf_x2' (d + 0) n x1 0 I J rv sp rr w nw o1456 eo1456) (fun v h hq => ?_)
  obtain ⟨rfl, rfl⟩ := hq
  cases e
  exact mm_T.ret rfl ⟨rfl, rfl⟩
set_option maxRecDepth 100000 in
set_option maxHeartbeats 4000000 in
theorem tlX4_takeNumber_L5 (d : Nat) (Q : Option Value → mm_H → Prop) : ∀ (n : Nat) (I : Nat → Nat → Int32) (J : Nat → Nat → Int64) (rv sp rr w nw : Nat), ∀ (out : (Nat → Nat → Int32)), fX4_takeNumber_L5 n I = some out → mm_T none (d + 1) 36 (66, [some (.ref 16), none], []) (107, out, J, mm_rf rv sp rr w nw) Q → mm_T none (d + 1) 36 (5, [some (.ref 16), none], []) (107, I, J, mm_rf rv sp rr w nw) Q := by
  intro n
  induction n with
  | zero =>
    intro I J rv sp rr w nw out e k
    rw [fX4_takeNumber_L5] at e; cases e
  | succ n ih =>
    intro I J rv sp rr w nw out e k
    rw [fX4_takeNumber_L5] at e
    refine mm_T.seg (f' := (13, [some (.ref 16), none], [(.int (I 16 2)), (.int (I 16 4))])) (h' := (107, I, J, mm_rf rv sp rr w nw)) 4 rfl ?_
    refine mm_T.br (c := (I 16 4) < (I 16 2)) (a := ((16, [some (.ref 16), none], []), (107, I, J, mm_rf rv sp rr w nw))) (b := ((66, [some (.ref 16), none], []), (107, I, J, mm_rf rv sp rr w nw))) rfl (fun h1459 => ?_) (fun h1459 => ?_)
    · rw [if_pos h1459] at e
      refine mm_T.seg (f' := (21, [some (.ref 16), none], [(.int (I 16 4)), (.ref 16)])) (h' := (107, I, J, mm_rf rv sp rr w nw)) 3 rfl ?_
      obtain ⟨o1460, eo1460, e⟩ := mm_bind e
      refine mm_T.call (t := 31) (as := [(.ref 16), (.int (I 16 4))]) (f' := (24, [some (.ref 16), none], [])) rfl (tX4_byteAt (d + 0) (I 16 4) I J rv sp rr w nw o1460 eo1460) (fun v h hq => ?_)
      obtain ⟨rfl, rfl⟩ := hq
      refine mm_T.call (t := 33) (as := [(.int o1460)]) (f' := (27, [some (.ref 16), none], [])) rfl (tX4_isDigit (d + 0) o1460 I J rv sp rr w nw _ rfl) (fun v h hq => ?_)
      obtain ⟨rfl, rfl⟩ := hq
      refine mm_T.br (c := (fX4_isDigit o1460) = 0) (a := ((66, [some (.ref 16), none], []), (107, I, J, mm_rf rv sp rr w nw))) (b := ((30, [some (.ref 16), none], []), (107, I, J, mm_rf rv sp rr w nw))) rfl (fun h1461 => ?_) (fun h1461 => ?_)
      · rw [if_pos h1461] at e
        cases e
        refine mm_T.mask [true, false] ?_
        exact k
      · rw [if_neg h1461] at e
        refine mm_T.seg (f' := (43, [some (.ref 16), none], [(.int (I 16 4)), (.ref 16), (.int ((I 16 6) * 10)), (.ref 16)])) (h' := (107, I, J, mm_rf rv sp rr w nw)) 8 rfl ?_
        obtain ⟨o1462, eo1462, e⟩ := mm_bind e
        refine mm_T.call (t := 31) (as := [(.ref 16), (.int (I 16 4))]) (f' := (46, [some (.ref 16), none], [(.int ((I 16 6) * 10)), (.ref 16)])) rfl (tX4_byteAt (d + 0) (I 16 4) I J rv sp rr w nw o1462 eo1462) (fun v h hq => ?_)
        obtain ⟨rfl, rfl⟩ := hq
        refine mm_T.seg (f' := (5, [some (.ref 16), none], [])) (h' := (107, (mm_up (mm_up I 16 6 (((I 16 6) * 10) + (o1462 - 48))) 16 4 ((I 16 4) + 1)), J, mm_rf rv sp rr w nw)) 11 rfl ?_
        refine mm_T.mask [true, false] ?_
        exact ih (mm_up (mm_up I 16 6 (((I 16 6) * 10) + (o1462 - 48))) 16 4 ((I 16 4) + 1)) J rv sp rr w nw out e k
    · rw [if_neg h1459] at e
      cases e
      refine mm_T.mask [true, false] ?_
      exact k
set_option maxRecDepth 100000 in
set_option maxHeartbeats 4000000 in
theorem tbX4_takeNumber_J96 (d : Nat) (u0 : Int32) (I : Nat → Nat → Int32) (J : Nat → Nat → Int64) (rv sp rr w nw : Nat) (out : (Nat → Nat → Int32)) (e : fX4_takeNumber_J96 u0 I = some out) : mm_T none (d + 1) 36 (96, [some (.ref 16), none], [(.int u0)]) (107, I, J, mm_rf rv sp rr w nw) (fun v h => v = none ∧ h = (107, out, J, mm_rf rv sp rr w nw)) := by
  unfold fX4_takeNumber_J96 at e
  refine mm_T.seg (f' := (108, [some (.ref 16), some (.int u0)], [(.int 4), (.int ((I 16 4) - (I 16 3))), (.ref 16)])) (h' := (107, I, J, mm_rf rv sp rr w nw)) 8 rfl ?_
  refine mm_T.br (c := 4 < ((I 16 4) - (I 16 3))) (a := ((115, [some (.ref 16), some (.int u0)], [(.ref 16)]), (107, I, J, mm_rf rv sp rr w nw))) (b := ((111, [some (.ref 16), some (.int u0)], [(.ref 16)]), (107, I, J, mm_rf rv sp rr w nw))) rfl (fun h1467 => ?_) (fun h1467 => ?_)
  · rw [if_pos h1467] at e
    refine mm_T.seg (f' := (123, [some (.ref 16), some (.int u0)], [])) (h' := (107, (mm_up I 16 5 4), J, mm_rf rv sp rr w nw)) 3 rfl ?_
    cases e
    exact mm_T.ret rfl ⟨rfl, rfl⟩
  · rw [if_neg h1467] at e
    refine mm_T.seg (f' := (112, [some (.ref 16), some (.int u0)], [(.int u0), (.ref 16)])) (h' := (107, I, J, mm_rf rv sp rr w nw)) 1 rfl ?_
    refine mm_T.br (c := u0 = 0) (a := ((119, [some (.ref 16), some (.int u0)], [(.ref 16)]), (107, I, J, mm_rf rv sp rr w nw))) (b := ((115, [some (.ref 16), some (.int u0)], [(.ref 16)]), (107, I, J, mm_rf rv sp rr w nw))) rfl (fun h1468 => ?_) (fun h1468 => ?_)
    · rw [if_pos h1468] at e
      refine mm_T.seg (f' := (123, [some (.ref 16), some (.int u0)], [])) (h' := (107, (mm_up I 16 5 2), J, mm_rf rv sp rr w nw)) 2 rfl ?_
      cases e
      exact mm_T.ret rfl ⟨rfl, rfl⟩
    · rw [if_neg h1468] at e
      refine mm_T.seg (f' := (123, [some (.ref 16), some (.int u0)], [])) (h' := (107, (mm_up I 16 5 4), J, mm_rf rv sp rr w nw)) 3 rfl ?_
      cases e
      exact mm_T.ret rfl ⟨rfl, rfl⟩
set_option maxRecDepth 100000 in
set_option maxHeartbeats 4000000 in
theorem tbX4_takeNumber_J95 (d : Nat) (I : Nat → Nat → Int32) (J : Nat → Nat → Int64) (rv sp rr w nw : Nat) (out : (Nat → Nat → Int32)) (e : fX4_takeNumber_J95 I = some out) : mm_T none (d + 1) 36 (95, [some (.ref 16), none], []) (107, I, J, mm_rf rv sp rr w nw) (fun v h => v = none ∧ h = (107, out, J, mm_rf rv sp rr w nw)) := by
  unfold fX4_takeNumber_J95 at e
  refine mm_T.seg (f' := (96, [some (.ref 16), none], [(.int 0)])) (h' := (107, I, J, mm_rf rv sp rr w nw)) 1 rfl ?_
  refine mm_T.mask [true, false] ?_
  exact tbX4_takeNumber_J96 d 0 I J rv sp rr w nw out e
set_option maxRecDepth 100000 in
set_option maxHeartbeats 4000000 in
theorem tbX4_takeNumber_J66 (d : Nat) (I : Nat → Nat → Int32) (J : Nat → Nat → Int64) (rv sp rr w nw : Nat) (out : (Nat → Nat → Int32)) (e : fX4_takeNumber_J66 I = some out) : mm_T none (d + 1) 36 (66, [some (.ref 16), none], []) (107, I, J, mm_rf rv sp rr w nw) (fun v h => v = none ∧ h = (107, out, J, mm_rf rv sp rr w nw)) := by
  unfold fX4_takeNumber_J66 at e
  refine mm_T.seg (f' := (74, [some (.ref 16), none], [(.int (I 16 2)), (.int (I 16 4))])) (h' := (107, I, J, mm_rf rv sp rr w nw)) 4 rfl ?_
  refine mm_T.br (c := (I 16 4) < (I 16 2)) (a := ((77, [some (.ref 16), none], []), (107, I, J, mm_rf rv sp rr w nw))) (b := ((95, [some (.ref 16), none], []), (107, I, J, mm_rf rv sp rr w nw))) rfl (fun h1464 => ?_) (fun h1464 => ?_)
  · rw [if_pos h1464] at e
    refine mm_T.seg (f' := (82, [some (.ref 16), none], [(.int (I 16 4)), (.ref 16)])) (h' := (107, I, J, mm_rf rv sp rr w nw)) 3 rfl ?_
    obtain ⟨o1465, eo1465, e⟩ := mm_bind e
    refine mm_T.call (t := 31) (as := [(.ref 16), (.int (I 16 4))]) (f' := (85, [some (.ref 16), none], [])) rfl (tX4_byteAt (d + 0) (I 16 4) I J rv sp rr w nw o1465 eo1465) (fun v h hq => ?_)
    obtain ⟨rfl, rfl⟩ := hq
    refine mm_T.call (t := 32) (as := [(.int o1465)]) (f' := (88, [some (.ref 16), none], [])) rfl (tX4_isLetter (d + 0) o1465 I J rv sp rr w nw _ rfl) (fun v h hq => ?_)
    obtain ⟨rfl, rfl⟩ := hq
    refine mm_T.br (c := (fX4_isLetter o1465) = 0) (a := ((95, [some (.ref 16), none], []), (107, I, J, mm_rf rv sp rr w nw))) (b := ((91, [some (.ref 16), none], []), (107, I, J, mm_rf rv sp rr w nw))) rfl (fun h1466 => ?_) (fun h1466 => ?_)
    · rw [if_pos h1466] at e
      refine mm_T.mask [true, false] ?_
      exact tbX4_takeNumber_J95 d I J rv sp rr w nw out e
    · rw [if_neg h1466] at e
      refine mm_T.seg (f' := (96, [some (.ref 16), none], [(.int 1)])) (h' := (107, I, J, mm_rf rv sp rr w nw)) 2 rfl ?_
      refine mm_T.mask [true, false] ?_
      exact tbX4_takeNumber_J96 d 1 I J rv sp rr w nw out e
  · rw [if_neg h1464] at e
    refine mm_T.mask [true, false] ?_
    exact tbX4_takeNumber_J95 d I J rv sp rr w nw out e
set_option maxRecDepth 100000 in
set_option maxHeartbeats 4000000 in
theorem tX4_takeNumber (d n : Nat) (I : Nat → Nat → Int32) (J : Nat → Nat → Int64) (rv sp rr w nw : Nat) (out : (Nat → Nat → Int32)) (e : fX4_takeNumber n I = some out) : mm_T none (d + 1) 36 (mm_ent 36 [(.ref 16)]) (107, I, J, mm_rf rv sp rr w nw) (fun v h => v = none ∧ h = (107, out, J, mm_rf rv sp rr w nw)) := by
  unfold fX4_takeNumber at e
  refine mm_T.seg (f' := (5, [some (.ref 16), none], [])) (h' := (107, (mm_up I 16 6 0), J, mm_rf rv sp rr w nw)) 3 rfl ?_
  refine mm_T.mask [true, false] ?_
  obtain ⟨o1463, eo1463, e⟩ := mm_bind e
  refine tlX4_takeNumber_L5 d _ n (mm_up I 16 6 0) J rv sp rr w nw o1463 eo1463 ?_
  refine mm_T.mask [true, false] ?_
  exact tbX4_takeNumber_J66 d o1463 J rv sp rr w nw out e
set_option maxRecDepth 100000 in
set_option maxHeartbeats 4000000 in
theorem tlX4_ownWord_L2 (d : Nat) (Q : Option Value → mm_H → Prop) : ∀ (n : Nat) (y1 : Int64) (y3 : Int32) (I : Nat → Nat → Int32) (J : Nat → Nat → Int64) (rv sp rr w nw : Nat), ∀ (out : (Int32 ⊕ (Unit))), fX4_ownWord_L2 n y1 y3 J = some out → (∀ (r : Int32), out = .inl r → Q (some (.int r)) (107, I, J, mm_rf rv sp rr w nw)) → (∀ (y : Unit), out = .inr y → mm_T none (d + 0) 37 (27, [none, none, none, none], []) (107, I, J, mm_rf rv sp rr w nw) Q) → mm_T none (d + 0) 37 (2, [some (.ref 16), some (.long y1), none, some (.int y3)], []) (107, I, J, mm_rf rv sp rr w nw) Q := by
  intro n
  induction n with
  | zero =>
    intro y1 y3 I J rv sp rr w nw out e kr ke
    rw [fX4_ownWord_L2] at e; cases e
  | succ n ih =>
    intro y1 y3 I J rv sp rr w nw out e kr ke
    rw [fX4_ownWord_L2] at e
    refine mm_T.seg (f' := (5, [some (.ref 16), some (.long y1), none, some (.int y3)], [(.int 19), (.int y3)])) (h' := (107, I, J, mm_rf rv sp rr w nw)) 2 rfl ?_
    refine mm_T.br (c := y3 < 19) (a := ((8, [some (.ref 16), some (.long y1), none, some (.int y3)], []), (107, I, J, mm_rf rv sp rr w nw))) (b := ((27, [some (.ref 16), some (.long y1), none, some (.int y3)], []), (107, I, J, mm_rf rv sp rr w nw))) rfl (fun h1480 => ?_) (fun h1480 => ?_)
    · rw [if_pos h1480] at e
      refine mm_T.seg (f' := (13, [some (.ref 16), some (.long y1), none, some (.int y3)], [(.int y3), (.ref 17)])) (h' := (107, I, J, mm_rf rv sp rr w nw)) 3 rfl ?_
      by_cases h1481 : y3 < 0 ∨ 19 ≤ y3.toNatClampNeg
      · rw [if_pos h1481] at e; cases e
      rw [if_neg h1481] at e
      refine mm_T.guard (y := ((14, [some (.ref 16), some (.long y1), none, some (.int y3)], [(.long (J 17 y3.toNatClampNeg))]), (107, I, J, mm_rf rv sp rr w nw))) rfl h1481 ?_
      refine mm_T.seg (f' := (16, [some (.ref 16), some (.long y1), none, some (.int y3)], [(.int (lg_cmp (J 17 y3.toNatClampNeg) y1))])) (h' := (107, I, J, mm_rf rv sp rr w nw)) 2 rfl ?_
      refine mm_T.br (c := (lg_cmp (J 17 y3.toNatClampNeg) y1) = 0) (a := ((19, [some (.ref 16), some (.long y1), none, some (.int y3)], []), (107, I, J, mm_rf rv sp rr w nw))) (b := ((21, [some (.ref 16), some (.long y1), none, some (.int y3)], []), (107, I, J, mm_rf rv sp rr w nw))) rfl (fun h1482 => ?_) (fun h1482 => ?_)
      · rw [if_pos h1482] at e
        refine mm_T.seg (f' := (20, [some (.ref 16), some (.long y1), none, some (.int y3)], [(.int y3)])) (h' := (107, I, J, mm_rf rv sp rr w nw)) 1 rfl ?_
        cases e
        exact mm_T.ret rfl (kr _ rfl)
      · rw [if_neg h1482] at e
        refine mm_T.seg (f' := (2, [some (.ref 16), some (.long y1), none, some (.int (y3 + 1))], [])) (h' := (107, I, J, mm_rf rv sp rr w nw)) 2 rfl ?_
        refine mm_T.mask [true, true, false, true] ?_
        exact ih y1 (y3 + 1) I J rv sp rr w nw out e kr ke
    · rw [if_neg h1480] at e
      cases e
      refine mm_T.mask [false, false, false, false] ?_
      exact ke _ rfl
set_option maxRecDepth 100000 in
set_option maxHeartbeats 4000000 in
theorem tX4_ownWord (d n : Nat) (x1 : Int64) (I : Nat → Nat → Int32) (J : Nat → Nat → Int64) (rv sp rr w nw : Nat) (out : Int32) (e : fX4_ownWord n x1 J = some out) : mm_T none (d + 0) 37 (mm_ent 37 [(.ref 16), (.long x1)]) (107, I, J, mm_rf rv sp rr w nw) (fun v h => v = some (.int out) ∧ h = (107, I, J, mm_rf rv sp rr w nw)) := by
  unfold fX4_ownWord at e
  refine mm_T.seg (f' := (2, [some (.ref 16), some (.long x1), none, some (.int 0)], [])) (h' := (107, I, J, mm_rf rv sp rr w nw)) 2 rfl ?_
  refine mm_T.mask [true, true, false, true] ?_
  obtain ⟨o1483, eo1483, e⟩ := mm_bind e
  rcases o1483 with va1484 | vb1484
  · cases e
    refine tlX4_ownWord_L2 d _ n x1 0 I J rv sp rr w nw _ eo1483 (fun z hz => ?_) (fun z hz => ?_)
    · cases hz; exact ⟨rfl, rfl⟩
    · cases hz
  · refine tlX4_ownWord_L2 d _ n x1 0 I J rv sp rr w nw (.inr vb1484) eo1483 (fun z hz => ?_) (fun z hz => ?_)
    · cases hz
    · cases hz
      refine mm_T.seg (f' := (28, [none, none, none, none], [(.int (-1))])) (h' := (107, I, J, mm_rf rv sp rr w nw)) 1 rfl ?_
      cases e
      exact mm_T.ret rfl ⟨rfl, rfl⟩
set_option maxRecDepth 100000 in
set_option maxHeartbeats 4000000 in
theorem tlX4_takeWord_L5 (d : Nat) (Q : Option Value → mm_H → Prop) : ∀ (n : Nat) (I : Nat → Nat → Int32) (J : Nat → Nat → Int64) (rv sp rr w nw : Nat), ∀ (out : (Nat → Nat → Int32) × (Nat → Nat → Int64)), fX4_takeWord_L5 n I J = some out → mm_T none (d + 1) 35 (62, [some (.ref 16)], []) (107, out.1, out.2, mm_rf rv sp rr w nw) Q → mm_T none (d + 1) 35 (5, [some (.ref 16)], []) (107, I, J, mm_rf rv sp rr w nw) Q := by
  intro n
  induction n with
  | zero =>
    intro I J rv sp rr w nw out e k
    rw [fX4_takeWord_L5] at e; cases e
  | succ n ih =>
    intro I J rv sp rr w nw out e k
    rw [fX4_takeWord_L5] at e
    refine mm_T.seg (f' := (13, [some (.ref 16)], [(.int (I 16 2)), (.int (I 16 4))])) (h' := (107, I, J, mm_rf rv sp rr w nw)) 4 rfl ?_
    refine mm_T.br (c := (I 16 4) < (I 16 2)) (a := ((16, [some (.ref 16)], []), (107, I, J, mm_rf rv sp rr w nw))) (b := ((62, [some (.ref 16)], []), (107, I, J, mm_rf rv sp rr w nw))) rfl (fun h1470 => ?_) (fun h1470 => ?_)
    · rw [if_pos h1470] at e
      refine mm_T.seg (f' := (21, [some (.ref 16)], [(.int (I 16 4)), (.ref 16)])) (h' := (107, I, J, mm_rf rv sp rr w nw)) 3 rfl ?_
      obtain ⟨o1471, eo1471, e⟩ := mm_bind e
      refine mm_T.call (t := 31) (as := [(.ref 16), (.int (I 16 4))]) (f' := (24, [some (.ref 16)], [])) rfl (tX4_byteAt (d + 0) (I 16 4) I J rv sp rr w nw o1471 eo1471) (fun v h hq => ?_)
      obtain ⟨rfl, rfl⟩ := hq
      refine mm_T.call (t := 32) (as := [(.int o1471)]) (f' := (27, [some (.ref 16)], [])) rfl (tX4_isLetter (d + 0) o1471 I J rv sp rr w nw _ rfl) (fun v h hq => ?_)
      obtain ⟨rfl, rfl⟩ := hq
      refine mm_T.br (c := (fX4_isLetter o1471) = 0) (a := ((62, [some (.ref 16)], []), (107, I, J, mm_rf rv sp rr w nw))) (b := ((30, [some (.ref 16)], []), (107, I, J, mm_rf rv sp rr w nw))) rfl (fun h1472 => ?_) (fun h1472 => ?_)
      · rw [if_pos h1472] at e
        cases e
        refine mm_T.mask [true] ?_
        exact k
      · rw [if_neg h1472] at e
        refine mm_T.seg (f' := (40, [some (.ref 16)], [(.int (I 16 4)), (.ref 16), (.long (J 16 8)), (.ref 16)])) (h' := (107, I, J, mm_rf rv sp rr w nw)) 6 rfl ?_
        obtain ⟨o1473, eo1473, e⟩ := mm_bind e
        refine mm_T.call (t := 31) (as := [(.ref 16), (.int (I 16 4))]) (f' := (43, [some (.ref 16)], [(.long (J 16 8)), (.ref 16)])) rfl (tX4_byteAt (d + 0) (I 16 4) I J rv sp rr w nw o1473 eo1473) (fun v h hq => ?_)
        obtain ⟨rfl, rfl⟩ := hq
        refine mm_T.call (t := 28) (as := [(.long (J 16 8)), (.int o1473)]) (f' := (46, [some (.ref 16)], [(.ref 16)])) rfl (tX4_withLetter (d + 0) (J 16 8) o1473 I J rv sp rr w nw _ rfl) (fun v h hq => ?_)
        obtain ⟨rfl, rfl⟩ := hq
        refine mm_T.seg (f' := (5, [some (.ref 16)], [])) (h' := (107, (mm_up I 16 4 ((I 16 4) + 1)), (mm_up J 16 8 (fX4_withLetter (J 16 8) o1473)), mm_rf rv sp rr w nw)) 8 rfl ?_
        refine mm_T.mask [true] ?_
        exact ih (mm_up I 16 4 ((I 16 4) + 1)) (mm_up J 16 8 (fX4_withLetter (J 16 8) o1473)) rv sp rr w nw out e k
    · rw [if_neg h1470] at e
      cases e
      refine mm_T.mask [true] ?_
      exact k
set_option maxRecDepth 100000 in
set_option maxHeartbeats 4000000 in
theorem tbX4_takeWord_J82 (d n : Nat) (u0 : Int32) (I : Nat → Nat → Int32) (J : Nat → Nat → Int64) (rv sp rr w nw : Nat) (out : (Nat → Nat → Int32) × (Nat → Nat → Int64)) (e : fX4_takeWord_J82 n u0 I J = some out) : mm_T none (d + 1) 35 (82, [some (.ref 16)], [(.int u0), (.ref 16)]) (107, I, J, mm_rf rv sp rr w nw) (fun v h => v = none ∧ h = (107, out.1, out.2, mm_rf rv sp rr w nw)) := by
  unfold fX4_takeWord_J82 at e
  refine mm_T.seg (f' := (91, [some (.ref 16)], [(.int 1), (.int u0), (.ref 16)])) (h' := (107, (mm_up I 16 5 u0), J, mm_rf rv sp rr w nw)) 5 rfl ?_
  refine mm_T.br (c := u0 = 1) (a := ((94, [some (.ref 16)], [(.ref 16)]), (107, (mm_up I 16 5 u0), J, mm_rf rv sp rr w nw))) (b := ((105, [some (.ref 16)], [(.ref 16)]), (107, (mm_up I 16 5 u0), J, mm_rf rv sp rr w nw))) rfl (fun h1476 => ?_) (fun h1476 => ?_)
  · rw [if_pos h1476] at e
    refine mm_T.seg (f' := (99, [some (.ref 16)], [(.long (J 16 8)), (.ref 16), (.ref 16)])) (h' := (107, (mm_up I 16 5 u0), J, mm_rf rv sp rr w nw)) 3 rfl ?_
    obtain ⟨o1485, eo1485, e⟩ := mm_bind e
    refine mm_T.call (t := 37) (as := [(.ref 16), (.long (J 16 8))]) (f' := (102, [some (.ref 16)], [(.ref 16)])) rfl (tX4_ownWord (d + 0) n (J 16 8) (mm_up I 16 5 u0) J rv sp rr w nw o1485 eo1485) (fun v h hq => ?_)
    obtain ⟨rfl, rfl⟩ := hq
    refine mm_T.seg (f' := (109, [some (.ref 16)], [])) (h' := (107, (mm_up (mm_up I 16 5 u0) 16 7 o1485), J, mm_rf rv sp rr w nw)) 2 rfl ?_
    cases e
    exact mm_T.ret rfl ⟨rfl, rfl⟩
  · rw [if_neg h1476] at e
    refine mm_T.seg (f' := (109, [some (.ref 16)], [])) (h' := (107, (mm_up (mm_up I 16 5 u0) 16 7 (-1)), J, mm_rf rv sp rr w nw)) 2 rfl ?_
    cases e
    exact mm_T.ret rfl ⟨rfl, rfl⟩
set_option maxRecDepth 100000 in
set_option maxHeartbeats 4000000 in
theorem tbX4_takeWord_J62 (d n : Nat) (I : Nat → Nat → Int32) (J : Nat → Nat → Int64) (rv sp rr w nw : Nat) (out : (Nat → Nat → Int32) × (Nat → Nat → Int64)) (e : fX4_takeWord_J62 n I J = some out) : mm_T none (d + 1) 35 (62, [some (.ref 16)], []) (107, I, J, mm_rf rv sp rr w nw) (fun v h => v = none ∧ h = (107, out.1, out.2, mm_rf rv sp rr w nw)) := by
  unfold fX4_takeWord_J62 at e
  refine mm_T.seg (f' := (74, [some (.ref 16)], [(.int 8), (.int ((I 16 4) - (I 16 3))), (.ref 16)])) (h' := (107, I, J, mm_rf rv sp rr w nw)) 7 rfl ?_
  refine mm_T.br (c := 8 < ((I 16 4) - (I 16 3))) (a := ((77, [some (.ref 16)], [(.ref 16)]), (107, I, J, mm_rf rv sp rr w nw))) (b := ((81, [some (.ref 16)], [(.ref 16)]), (107, I, J, mm_rf rv sp rr w nw))) rfl (fun h1475 => ?_) (fun h1475 => ?_)
  · rw [if_pos h1475] at e
    refine mm_T.seg (f' := (82, [some (.ref 16)], [(.int 4), (.ref 16)])) (h' := (107, I, J, mm_rf rv sp rr w nw)) 2 rfl ?_
    refine mm_T.mask [true] ?_
    exact tbX4_takeWord_J82 d n 4 I J rv sp rr w nw out e
  · rw [if_neg h1475] at e
    refine mm_T.seg (f' := (82, [some (.ref 16)], [(.int 1), (.ref 16)])) (h' := (107, I, J, mm_rf rv sp rr w nw)) 1 rfl ?_
    refine mm_T.mask [true] ?_
    exact tbX4_takeWord_J82 d n 1 I J rv sp rr w nw out e
set_option maxRecDepth 100000 in
set_option maxHeartbeats 4000000 in
theorem tX4_takeWord (d n : Nat) (I : Nat → Nat → Int32) (J : Nat → Nat → Int64) (rv sp rr w nw : Nat) (out : (Nat → Nat → Int32) × (Nat → Nat → Int64)) (e : fX4_takeWord n I J = some out) : mm_T none (d + 1) 35 (mm_ent 35 [(.ref 16)]) (107, I, J, mm_rf rv sp rr w nw) (fun v h => v = none ∧ h = (107, out.1, out.2, mm_rf rv sp rr w nw)) := by
  unfold fX4_takeWord at e
  refine mm_T.seg (f' := (5, [some (.ref 16)], [])) (h' := (107, I, (mm_up J 16 8 0), mm_rf rv sp rr w nw)) 3 rfl ?_
  refine mm_T.mask [true] ?_
  obtain ⟨o1474, eo1474, e⟩ := mm_bind e
  refine tlX4_takeWord_L5 d _ n I (mm_up J 16 8 0) rv sp rr w nw o1474 eo1474 ?_
  refine mm_T.mask [true] ?_
  exact tbX4_takeWord_J62 d n o1474.1 o1474.2 rv sp rr w nw out e
