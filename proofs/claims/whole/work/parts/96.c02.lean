set_option maxRecDepth 100000 in
set_option maxHeartbeats 4000000 in
theorem tX3_add (d : Nat) (x1 : Int32) (I : Nat → Nat → Int32) (J : Nat → Nat → Int64) (rv sp rr w nw : Nat) (out : (Nat → Nat → Int32)) (e : fX3_add x1 I = some out) : mm_T none (d + 0) 24 (mm_ent 24 [(.ref 35), (.int x1)]) (107, I, J, mm_rf rv sp rr w nw) (fun v h => v = none ∧ h = (107, out, J, mm_rf rv sp rr w nw)) := by
  unfold fX3_add at e
  refine mm_T.seg (f' := (8, [some (.ref 35), some (.int x1)], [(.ref 36), (.int (I 35 1))])) (h' := (107, I, J, mm_rf rv sp rr w nw)) 4 rfl ?_
  refine mm_T.seg (f' := (9, [some (.ref 35), some (.int x1)], [(.int 7), (.int (I 35 1))])) (h' := (107, I, J, mm_rf rv sp rr w nw)) 1 rfl ?_
  refine mm_T.br (c := (I 35 1) < 7) (a := ((12, [some (.ref 35), some (.int x1)], []), (107, I, J, mm_rf rv sp rr w nw))) (b := ((32, [some (.ref 35), some (.int x1)], []), (107, I, J, mm_rf rv sp rr w nw))) rfl (fun h1415 => ?_) (fun h1415 => ?_)
  · rw [if_pos h1415] at e
    refine mm_T.seg (f' := (16, [some (.ref 35), some (.int x1)], [(.ref 36)])) (h' := (107, I, J, mm_rf rv sp rr w nw)) 2 rfl ?_
    refine mm_T.seg (f' := (21, [some (.ref 35), some (.int x1)], [(.int x1), (.int (I 35 1)), (.ref 36)])) (h' := (107, I, J, mm_rf rv sp rr w nw)) 3 rfl ?_
    by_cases h1416 : (I 35 1) < 0 ∨ 7 ≤ (I 35 1).toNatClampNeg
    · rw [if_pos h1416] at e; cases e
    rw [if_neg h1416] at e
    refine mm_T.guard (y := ((22, [some (.ref 35), some (.int x1)], []), (107, (mm_up I 36 (I 35 1).toNatClampNeg x1), J, mm_rf rv sp rr w nw))) rfl h1416 ?_
    refine mm_T.seg (f' := (32, [some (.ref 35), some (.int x1)], [])) (h' := (107, (mm_up (mm_up I 36 (I 35 1).toNatClampNeg x1) 35 1 ((I 35 1) + 1)), J, mm_rf rv sp rr w nw)) 6 rfl ?_
    cases e
    exact mm_T.ret rfl ⟨rfl, rfl⟩
  · rw [if_neg h1415] at e
    cases e
    exact mm_T.ret rfl ⟨rfl, rfl⟩
set_option maxRecDepth 100000 in
set_option maxHeartbeats 4000000 in
theorem tX3_numberAt (d : Nat) (x1 : Int32) (I : Nat → Nat → Int32) (J : Nat → Nat → Int64) (rv sp rr w nw : Nat) (out : Int32) (e : fX3_numberAt x1 I = out) : mm_T none (d + 1) 26 (mm_ent 26 [(.ref 35), (.int x1)]) (107, I, J, mm_rf rv sp rr w nw) (fun v h => v = some (.int out) ∧ h = (107, I, J, mm_rf rv sp rr w nw)) := by
  unfold fX3_numberAt at e
  refine mm_T.seg (f' := (1, [some (.ref 35), some (.int x1)], [(.int x1)])) (h' := (107, I, J, mm_rf rv sp rr w nw)) 1 rfl ?_
  refine mm_T.br (c := x1 < 0) (a := ((23, [some (.ref 35), some (.int x1)], []), (107, I, J, mm_rf rv sp rr w nw))) (b := ((4, [some (.ref 35), some (.int x1)], []), (107, I, J, mm_rf rv sp rr w nw))) rfl (fun h1417 => ?_) (fun h1417 => ?_)
  · rw [if_pos h1417] at e
    refine mm_T.seg (f' := (25, [some (.ref 35), some (.int x1)], [(.int (-2))])) (h' := (107, I, J, mm_rf rv sp rr w nw)) 1 rfl ?_
    cases e
    exact mm_T.ret rfl ⟨rfl, rfl⟩
  · rw [if_neg h1417] at e
    refine mm_T.seg (f' := (9, [some (.ref 35), some (.int x1)], [(.int (I 35 1)), (.int x1)])) (h' := (107, I, J, mm_rf rv sp rr w nw)) 3 rfl ?_
    refine mm_T.br (c := x1 < (I 35 1)) (a := ((12, [some (.ref 35), some (.int x1)], []), (107, I, J, mm_rf rv sp rr w nw))) (b := ((23, [some (.ref 35), some (.int x1)], []), (107, I, J, mm_rf rv sp rr w nw))) rfl (fun h1418 => ?_) (fun h1418 => ?_)
    · rw [if_pos h1418] at e
      refine mm_T.seg (f' := (16, [some (.ref 35), some (.int x1)], [(.ref 36)])) (h' := (107, I, J, mm_rf rv sp rr w nw)) 2 rfl ?_
      refine mm_T.seg (f' := (17, [some (.ref 35), some (.int x1)], [(.int x1), (.ref 36)])) (h' := (107, I, J, mm_rf rv sp rr w nw)) 1 rfl ?_
      refine mm_T.call (t := 204) (as := [(.ref 36), (.int x1)]) (f' := (20, [some (.ref 35), some (.int x1)], [])) rfl (t_pick _ 36 7 x1 I J (mm_rf rv sp rr w nw) rfl rfl) (fun v h hq => ?_)
      obtain ⟨rfl, rfl⟩ := hq
      refine mm_T.seg (f' := (25, [some (.ref 35), some (.int x1)], [(.int (mf_pick I 36 7 x1))])) (h' := (107, I, J, mm_rf rv sp rr w nw)) 1 rfl ?_
      cases e
      exact mm_T.ret rfl ⟨rfl, rfl⟩
    · rw [if_neg h1418] at e
      refine mm_T.seg (f' := (25, [some (.ref 35), some (.int x1)], [(.int (-2))])) (h' := (107, I, J, mm_rf rv sp rr w nw)) 1 rfl ?_
      cases e
      exact mm_T.ret rfl ⟨rfl, rfl⟩
set_option maxRecDepth 100000 in
set_option maxHeartbeats 4000000 in
theorem tX4_withLetter (d : Nat) (x0 : Int64) (x2 : Int32) (I : Nat → Nat → Int32) (J : Nat → Nat → Int64) (rv sp rr w nw : Nat) (out : Int64) (e : fX4_withLetter x0 x2 = out) : mm_T none (d + 0) 28 (mm_ent 28 [(.long x0), (.int x2)]) (107, I, J, mm_rf rv sp rr w nw) (fun v h => v = some (.long out) ∧ h = (107, I, J, mm_rf rv sp rr w nw)) := by
  unfold fX4_withLetter at e
  refine mm_T.seg (f' := (13, [some (.long x0), none, some (.int x2)], [(.long ((x0 * 27) + ((x2 - 97) + 1).toInt64))])) (h' := (107, I, J, mm_rf rv sp rr w nw)) 10 rfl ?_
  cases e
  exact mm_T.ret rfl ⟨rfl, rfl⟩
set_option maxRecDepth 100000 in
set_option maxHeartbeats 4000000 in
theorem tX4_refuse (d : Nat) (x1 : Int32) (I : Nat → Nat → Int32) (J : Nat → Nat → Int64) (rv sp rr w nw : Nat) (out : Int32 × (Nat → Nat → Int32)) (e : fX4_refuse x1 I = out) : mm_T none (d + 0) 30 (mm_ent 30 [(.ref 16), (.int x1)]) (107, I, J, mm_rf rv sp rr w nw) (fun v h => v = some (.int out.1) ∧ h = (107, out.2, J, mm_rf rv sp rr w nw)) := by
  unfold fX4_refuse at e
  refine mm_T.seg (f' := (6, [some (.ref 16), some (.int x1)], [(.int 4), (.int (I 16 5)), (.ref 16)])) (h' := (107, I, J, mm_rf rv sp rr w nw)) 4 rfl ?_
  refine mm_T.br (c := (I 16 5) = 4) (a := ((9, [some (.ref 16), some (.int x1)], [(.ref 16)]), (107, I, J, mm_rf rv sp rr w nw))) (b := ((13, [some (.ref 16), some (.int x1)], [(.ref 16)]), (107, I, J, mm_rf rv sp rr w nw))) rfl (fun h1419 => ?_) (fun h1419 => ?_)
  · rw [if_pos h1419] at e
    refine mm_T.seg (f' := (26, [some (.ref 16), some (.int x1)], [(.int 0)])) (h' := (107, (mm_up (mm_up I 16 11 1) 16 12 (I 16 3)), J, mm_rf rv sp rr w nw)) 8 rfl ?_
    cases e
    exact mm_T.ret rfl ⟨rfl, rfl⟩
  · rw [if_neg h1419] at e
    refine mm_T.seg (f' := (26, [some (.ref 16), some (.int x1)], [(.int 0)])) (h' := (107, (mm_up (mm_up I 16 11 x1) 16 12 (I 16 3)), J, mm_rf rv sp rr w nw)) 7 rfl ?_
    cases e
    exact mm_T.ret rfl ⟨rfl, rfl⟩
set_option maxRecDepth 100000 in
set_option maxHeartbeats 4000000 in
theorem tX4_byteAt (d : Nat) (x1 : Int32) (I : Nat → Nat → Int32) (J : Nat → Nat → Int64) (rv sp rr w nw : Nat) (out : Int32) (e : fX4_byteAt x1 I = some out) : mm_T none (d + 0) 31 (mm_ent 31 [(.ref 16), (.int x1)]) (107, I, J, mm_rf rv sp rr w nw) (fun v h => v = some (.int out) ∧ h = (107, I, J, mm_rf rv sp rr w nw)) := by
  unfold fX4_byteAt at e
  refine mm_T.seg (f' := (1, [some (.ref 16), some (.int x1)], [(.int x1)])) (h' := (107, I, J, mm_rf rv sp rr w nw)) 1 rfl ?_
  refine mm_T.br (c := x1 < 0) (a := ((34, [some (.ref 16), some (.int x1)], []), (107, I, J, mm_rf rv sp rr w nw))) (b := ((4, [some (.ref 16), some (.int x1)], []), (107, I, J, mm_rf rv sp rr w nw))) rfl (fun h1420 => ?_) (fun h1420 => ?_)
  · rw [if_pos h1420] at e
    refine mm_T.seg (f' := (35, [some (.ref 16), some (.int x1)], [(.int 0)])) (h' := (107, I, J, mm_rf rv sp rr w nw)) 1 rfl ?_
    cases e
    exact mm_T.ret rfl ⟨rfl, rfl⟩
  · rw [if_neg h1420] at e
    refine mm_T.seg (f' := (9, [some (.ref 16), some (.int x1)], [(.int (I 16 2)), (.int x1)])) (h' := (107, I, J, mm_rf rv sp rr w nw)) 3 rfl ?_
    refine mm_T.br (c := x1 < (I 16 2)) (a := ((12, [some (.ref 16), some (.int x1)], []), (107, I, J, mm_rf rv sp rr w nw))) (b := ((34, [some (.ref 16), some (.int x1)], []), (107, I, J, mm_rf rv sp rr w nw))) rfl (fun h1421 => ?_) (fun h1421 => ?_)
    · rw [if_pos h1421] at e
      refine mm_T.seg (f' := (17, [some (.ref 16), some (.int x1)], [(.ref 2), (.int x1)])) (h' := (107, I, J, mm_rf rv sp rr w nw)) 3 rfl ?_
      refine mm_T.seg (f' := (18, [some (.ref 16), some (.int x1)], [(.int 1600), (.int x1)])) (h' := (107, I, J, mm_rf rv sp rr w nw)) 1 rfl ?_
      refine mm_T.br (c := x1 < 1600) (a := ((21, [some (.ref 16), some (.int x1)], []), (107, I, J, mm_rf rv sp rr w nw))) (b := ((34, [some (.ref 16), some (.int x1)], []), (107, I, J, mm_rf rv sp rr w nw))) rfl (fun h1422 => ?_) (fun h1422 => ?_)
      · rw [if_pos h1422] at e
        refine mm_T.seg (f' := (25, [some (.ref 16), some (.int x1)], [(.ref 2)])) (h' := (107, I, J, mm_rf rv sp rr w nw)) 2 rfl ?_
        refine mm_T.seg (f' := (26, [some (.ref 16), some (.int x1)], [(.int x1), (.ref 2)])) (h' := (107, I, J, mm_rf rv sp rr w nw)) 1 rfl ?_
        by_cases h1423 : x1 < 0 ∨ 1600 ≤ x1.toNatClampNeg
        · rw [if_pos h1423] at e; cases e
        rw [if_neg h1423] at e
        refine mm_T.guard (y := ((27, [some (.ref 16), some (.int x1)], [(.int (I 2 x1.toNatClampNeg))]), (107, I, J, mm_rf rv sp rr w nw))) rfl h1423 ?_
        refine mm_T.seg (f' := (35, [some (.ref 16), some (.int x1)], [(.int ((I 2 x1.toNatClampNeg) &&& 255))])) (h' := (107, I, J, mm_rf rv sp rr w nw)) 3 rfl ?_
        cases e
        exact mm_T.ret rfl ⟨rfl, rfl⟩
      · rw [if_neg h1422] at e
        refine mm_T.seg (f' := (35, [some (.ref 16), some (.int x1)], [(.int 0)])) (h' := (107, I, J, mm_rf rv sp rr w nw)) 1 rfl ?_
        cases e
        exact mm_T.ret rfl ⟨rfl, rfl⟩
    · rw [if_neg h1421] at e
      refine mm_T.seg (f' := (35, [some (.ref 16), some (.int x1)], [(.int 0)])) (h' := (107, I, J, mm_rf rv sp rr w nw)) 1 rfl ?_
      cases e
      exact mm_T.ret rfl ⟨rfl, rfl⟩
set_option maxRecDepth 100000 in
set_option maxHeartbeats 4000000 in
theorem tX4_isLetter (d : Nat) (x0 : Int32) (I : Nat → Nat → Int32) (J : Nat → Nat → Int64) (rv sp rr w nw : Nat) (out : Int32) (e : fX4_isLetter x0 = out) : mm_T none (d + 0) 32 (mm_ent 32 [(.int x0)]) (107, I, J, mm_rf rv sp rr w nw) (fun v h => v = some (.int out) ∧ h = (107, I, J, mm_rf rv sp rr w nw)) := by
  unfold fX4_isLetter at e
  refine mm_T.seg (f' := (3, [some (.int x0)], [(.int 97), (.int x0)])) (h' := (107, I, J, mm_rf rv sp rr w nw)) 2 rfl ?_
  refine mm_T.br (c := x0 < 97) (a := ((16, [some (.int x0)], []), (107, I, J, mm_rf rv sp rr w nw))) (b := ((6, [some (.int x0)], []), (107, I, J, mm_rf rv sp rr w nw))) rfl (fun h1424 => ?_) (fun h1424 => ?_)
  · rw [if_pos h1424] at e
    refine mm_T.seg (f' := (17, [some (.int x0)], [(.int 0)])) (h' := (107, I, J, mm_rf rv sp rr w nw)) 1 rfl ?_
    cases e
    exact mm_T.ret rfl ⟨rfl, rfl⟩
  · rw [if_neg h1424] at e
    refine mm_T.seg (f' := (9, [some (.int x0)], [(.int 122), (.int x0)])) (h' := (107, I, J, mm_rf rv sp rr w nw)) 2 rfl ?_
    refine mm_T.br (c := 122 < x0) (a := ((16, [some (.int x0)], []), (107, I, J, mm_rf rv sp rr w nw))) (b := ((12, [some (.int x0)], []), (107, I, J, mm_rf rv sp rr w nw))) rfl (fun h1425 => ?_) (fun h1425 => ?_)
    · rw [if_pos h1425] at e
      refine mm_T.seg (f' := (17, [some (.int x0)], [(.int 0)])) (h' := (107, I, J, mm_rf rv sp rr w nw)) 1 rfl ?_
      cases e
      exact mm_T.ret rfl ⟨rfl, rfl⟩
    · rw [if_neg h1425] at e
      refine mm_T.seg (f' := (17, [some (.int x0)], [(.int 1)])) (h' := (107, I, J, mm_rf rv sp rr w nw)) 2 rfl ?_
      cases e
      exact mm_T.ret rfl ⟨rfl, rfl⟩
set_option maxRecDepth 100000 in
set_option maxHeartbeats 4000000 in
theorem tX4_isDigit (d : Nat) (x0 : Int32) (I : Nat → Nat → Int32) (J : Nat → Nat → Int64) (rv sp rr w nw : Nat) (out : Int32) (e : fX4_isDigit x0 = out) : mm_T none (d + 0) 33 (mm_ent 33 [(.int x0)]) (107, I, J, mm_rf rv sp rr w nw) (fun v h => v = some (.int out) ∧ h = (107, I, J, mm_rf rv sp rr w nw)) := by
  unfold fX4_isDigit at e
  refine mm_T.seg (f' := (3, [some (.int x0)], [(.int 48), (.int x0)])) (h' := (107, I, J, mm_rf rv sp rr w nw)) 2 rfl ?_
  refine mm_T.br (c := x0 < 48) (a := ((16, [some (.int x0)], []), (107, I, J, mm_rf rv sp rr w nw))) (b := ((6, [some (.int x0)], []), (107, I, J, mm_rf rv sp rr w nw))) rfl (fun h1426 => ?_) (fun h1426 => ?_)
  · rw [if_pos h1426] at e
    refine mm_T.seg (f' := (17, [some (.int x0)], [(.int 0)])) (h' := (107, I, J, mm_rf rv sp rr w nw)) 1 rfl ?_
    cases e
    exact mm_T.ret rfl ⟨rfl, rfl⟩
  · rw [if_neg h1426] at e
    refine mm_T.seg (f' := (9, [some (.int x0)], [(.int 57), (.int x0)])) (h' := (107, I, J, mm_rf rv sp rr w nw)) 2 rfl ?_
    refine mm_T.br (c := 57 < x0) (a := ((16, [some (.int x0)], []), (107, I, J, mm_rf rv sp rr w nw))) (b := ((12, [some (.int x0)], []), (107, I, J, mm_rf rv sp rr w nw))) rfl (fun h1427 => ?_) (fun h1427 => ?_)
    · rw [if_pos h1427] at e
      refine mm_T.seg (f' := (17, [some (.int x0)], [(.int 0)])) (h' := (107, I, J, mm_rf rv sp rr w nw)) 1 rfl ?_
      cases e
      exact mm_T.ret rfl ⟨rfl, rfl⟩
    · rw [if_neg h1427] at e
      refine mm_T.seg (f' := (17, [some (.int x0)], [(.int 1)])) (h' := (107, I, J, mm_rf rv sp rr w nw)) 2 rfl ?_
      cases e
      exact mm_T.ret rfl ⟨rfl, rfl⟩
set_option maxRecDepth 100000 in
set_option maxHeartbeats 4000000 in
theorem tJ0_isLatin1_x2 (d : Nat) (I : Nat → Nat → Int32) (J : Nat → Nat → Int64) (rv sp rr w nw : Nat) (out : Int32) (e : fJ0_isLatin1_x2 = out) : mm_T none (d + 0) 337 (mm_ent 337 [(.retAddr 2)]) (107, I, J, mm_rf rv sp rr w nw) (fun v h => v = some (.int out) ∧ h = (107, I, J, mm_rf rv sp rr w nw)) := by
  unfold fJ0_isLatin1_x2 at e
  refine mm_T.seg (f' := (18, [some (.retAddr 2)], [(.int 1)])) (h' := (107, I, J, mm_rf rv sp rr w nw)) 7 rfl ?_
  cases e
  exact mm_T.ret rfl ⟨rfl, rfl⟩
set_option maxRecDepth 100000 in
set_option maxHeartbeats 4000000 in
theorem tJ0_coder_x2 (d : Nat) (I : Nat → Nat → Int32) (J : Nat → Nat → Int64) (rv sp rr w nw : Nat) (out : Int32) (e : fJ0_coder_x2 = out) : mm_T none (d + 0) 336 (mm_ent 336 [(.retAddr 2)]) (107, I, J, mm_rf rv sp rr w nw) (fun v h => v = some (.int out) ∧ h = (107, I, J, mm_rf rv sp rr w nw)) := by
  unfold fJ0_coder_x2 at e
  refine mm_T.seg (f' := (14, [some (.retAddr 2)], [(.int 0)])) (h' := (107, I, J, mm_rf rv sp rr w nw)) 5 rfl ?_
  cases e
  exact mm_T.ret rfl ⟨rfl, rfl⟩
set_option maxRecDepth 100000 in
set_option maxHeartbeats 4000000 in
theorem tJ0_length_x2 (d : Nat) (I : Nat → Nat → Int32) (J : Nat → Nat → Int64) (rv sp rr w nw : Nat) (out : Int32) (e : fJ0_length_x2 = out) : mm_T none (d + 1) 332 (mm_ent 332 [(.retAddr 2)]) (107, I, J, mm_rf rv sp rr w nw) (fun v h => v = some (.int out) ∧ h = (107, I, J, mm_rf rv sp rr w nw)) := by
  unfold fJ0_length_x2 at e
  refine mm_T.seg (f' := (6, [some (.retAddr 2)], [(.retAddr 2), (.int 11)])) (h' := (107, I, J, mm_rf rv sp rr w nw)) 4 rfl ?_
  refine mm_T.call (t := 336) (as := [(.retAddr 2)]) (f' := (9, [some (.retAddr 2)], [(.int 11)])) rfl (tJ0_coder_x2 (d + 0) I J rv sp rr w nw _ rfl) (fun v h hq => ?_)
  obtain ⟨rfl, rfl⟩ := hq
  refine mm_T.seg (f' := (10, [some (.retAddr 2)], [(.int ((11 : Int32) >>> ((0 : Int32) &&& 31)))])) (h' := (107, I, J, mm_rf rv sp rr w nw)) 1 rfl ?_
  cases e
  exact mm_T.ret rfl ⟨rfl, rfl⟩
set_option maxRecDepth 100000 in
set_option maxHeartbeats 4000000 in
theorem tJ1_canEncode (d : Nat) (x0 : Int32) (I : Nat → Nat → Int32) (J : Nat → Nat → Int64) (rv sp rr w nw : Nat) (out : Int32) (e : fJ1_canEncode x0 = out) : mm_T none (d + 0) 340 (mm_ent 340 [(.int x0)]) (107, I, J, mm_rf rv sp rr w nw) (fun v h => v = some (.int out) ∧ h = (107, I, J, mm_rf rv sp rr w nw)) := by
  unfold fJ1_canEncode at e
  refine mm_T.seg (f' := (1, [some (.int x0)], [(.int x0)])) (h' := (107, I, J, mm_rf rv sp rr w nw)) 1 rfl ?_
  refine mm_T.br (c := x0 < 0) (a := ((15, [some (.int x0)], []), (107, I, J, mm_rf rv sp rr w nw))) (b := ((4, [some (.int x0)], []), (107, I, J, mm_rf rv sp rr w nw))) rfl (fun h1445 => ?_) (fun h1445 => ?_)
  · rw [if_pos h1445] at e
    refine mm_T.seg (f' := (16, [some (.int x0)], [(.int 0)])) (h' := (107, I, J, mm_rf rv sp rr w nw)) 1 rfl ?_
    cases e
    exact mm_T.ret rfl ⟨rfl, rfl⟩
  · rw [if_neg h1445] at e
    refine mm_T.seg (f' := (8, [some (.int x0)], [(.int 255), (.int x0)])) (h' := (107, I, J, mm_rf rv sp rr w nw)) 2 rfl ?_
    refine mm_T.br (c := 255 < x0) (a := ((15, [some (.int x0)], []), (107, I, J, mm_rf rv sp rr w nw))) (b := ((11, [some (.int x0)], []), (107, I, J, mm_rf rv sp rr w nw))) rfl (fun h1446 => ?_) (fun h1446 => ?_)
    · rw [if_pos h1446] at e
      refine mm_T.seg (f' := (16, [some (.int x0)], [(.int 0)])) (h' := (107, I, J, mm_rf rv sp rr w nw)) 1 rfl ?_
      cases e
      exact mm_T.ret rfl ⟨rfl, rfl⟩
    · rw [if_neg h1446] at e
      refine mm_T.seg (f' := (16, [some (.int x0)], [(.int 1)])) (h' := (107, I, J, mm_rf rv sp rr w nw)) 2 rfl ?_
      cases e
      exact mm_T.ret rfl ⟨rfl, rfl⟩
set_option maxRecDepth 100000 in
set_option maxHeartbeats 4000000 in
theorem tlJ1_indexOfChar_x4_L7 (d : Nat) (Q : Option Value → mm_H → Prop) : ∀ (n : Nat) (y3 : Int32) (y4 : Int32) (y5 : Int32) (I : Nat → Nat → Int32) (J : Nat → Nat → Int64) (rv sp rr w nw : Nat), ∀ (out : (Int32 ⊕ (Unit))), fJ1_indexOfChar_x4_L7 n y3 y4 y5 = some out → (∀ (r : Int32), out = .inl r → Q (some (.int r)) (107, I, J, mm_rf rv sp rr w nw)) → (∀ (y : Unit), out = .inr y → mm_T none (d + 0) 342 (31, [none, none, none, none, none, none], []) (107, I, J, mm_rf rv sp rr w nw) Q) → mm_T none (d + 0) 342 (7, [some (.retAddr 4), none, none, some (.int y3), some (.int y4), some (.int y5)], []) (107, I, J, mm_rf rv sp rr w nw) Q := by
  intro n
  induction n with
  | zero =>
    intro y3 y4 y5 I J rv sp rr w nw out e kr ke
    rw [fJ1_indexOfChar_x4_L7] at e; cases e
  | succ n ih =>
    intro y3 y4 y5 I J rv sp rr w nw out e kr ke
    rw [fJ1_indexOfChar_x4_L7] at e
    refine mm_T.seg (f' := (10, [some (.retAddr 4), none, none, some (.int y3), some (.int y4), some (.int y5)], [(.int y3), (.int y5)])) (h' := (107, I, J, mm_rf rv sp rr w nw)) 2 rfl ?_
    refine mm_T.br (c := y5 < y3) (a := ((13, [some (.retAddr 4), none, none, some (.int y3), some (.int y4), some (.int y5)], []), (107, I, J, mm_rf rv sp rr w nw))) (b := ((31, [some (.retAddr 4), none, none, some (.int y3), some (.int y4), some (.int y5)], []), (107, I, J, mm_rf rv sp rr w nw))) rfl (fun h1449 => ?_) (fun h1449 => ?_)
    · rw [if_pos h1449] at e
      refine mm_T.seg (f' := (16, [some (.retAddr 4), none, none, some (.int y3), some (.int y4), some (.int y5)], [(.int y5), (.retAddr 4)])) (h' := (107, I, J, mm_rf rv sp rr w nw)) 2 rfl ?_
      by_cases h1450 : y5 < 0 ∨ mm_sb2.length ≤ y5.toNatClampNeg
      · rw [if_pos h1450] at e; cases e
      rw [if_neg h1450] at e
      refine mm_T.guard (y := ((17, [some (.retAddr 4), none, none, some (.int y3), some (.int y4), some (.int y5)], [(.int (mm_sb2.getD y5.toNatClampNeg 0))]), (107, I, J, mm_rf rv sp rr w nw))) rfl h1450 ?_
      refine mm_T.seg (f' := (19, [some (.retAddr 4), none, none, some (.int y3), some (.int y4), some (.int y5)], [(.int y4), (.int (mm_sb2.getD y5.toNatClampNeg 0))])) (h' := (107, I, J, mm_rf rv sp rr w nw)) 1 rfl ?_
      refine mm_T.br (c := (mm_sb2.getD y5.toNatClampNeg 0) = y4) (a := ((22, [some (.retAddr 4), none, none, some (.int y3), some (.int y4), some (.int y5)], []), (107, I, J, mm_rf rv sp rr w nw))) (b := ((25, [some (.retAddr 4), none, none, some (.int y3), some (.int y4), some (.int y5)], []), (107, I, J, mm_rf rv sp rr w nw))) rfl (fun h1451 => ?_) (fun h1451 => ?_)
      · rw [if_pos h1451] at e
        refine mm_T.seg (f' := (24, [some (.retAddr 4), none, none, some (.int y3), some (.int y4), some (.int y5)], [(.int y5)])) (h' := (107, I, J, mm_rf rv sp rr w nw)) 1 rfl ?_
        cases e
        exact mm_T.ret rfl (kr _ rfl)
      · rw [if_neg h1451] at e
        refine mm_T.seg (f' := (7, [some (.retAddr 4), none, none, some (.int y3), some (.int y4), some (.int (y5 + 1))], [])) (h' := (107, I, J, mm_rf rv sp rr w nw)) 2 rfl ?_
        refine mm_T.mask [true, false, false, true, true, true] ?_
        exact ih y3 y4 (y5 + 1) I J rv sp rr w nw out e kr ke
    · rw [if_neg h1449] at e
      cases e
      refine mm_T.mask [false, false, false, false, false, false] ?_
      exact ke _ rfl
set_option maxRecDepth 100000 in
set_option maxHeartbeats 4000000 in
theorem tJ1_indexOfChar_x4 (d n : Nat) (x1 : Int32) (x2 : Int32) (x3 : Int32) (I : Nat → Nat → Int32) (J : Nat → Nat → Int64) (rv sp rr w nw : Nat) (out : Int32) (e : fJ1_indexOfChar_x4 n x1 x2 x3 = some out) : mm_T none (d + 0) 342 (mm_ent 342 [(.retAddr 4), (.int x1), (.int x2), (.int x3)]) (107, I, J, mm_rf rv sp rr w nw) (fun v h => v = some (.int out) ∧ h = (107, I, J, mm_rf rv sp rr w nw)) := by
  unfold fJ1_indexOfChar_x4 at e
  refine mm_T.seg (f' := (7, [some (.retAddr 4), some (.int x1), some (.int x2), some (.int x3), some (.int x1.toInt8.toInt32), some (.int x2)], [])) (h' := (107, I, J, mm_rf rv sp rr w nw)) 5 rfl ?_
  refine mm_T.mask [true, false, false, true, true, true] ?_
  obtain ⟨o1452, eo1452, e⟩ := mm_bind e
  rcases o1452 with va1453 | vb1453
  · cases e
    refine tlJ1_indexOfChar_x4_L7 d _ n x3 x1.toInt8.toInt32 x2 I J rv sp rr w nw _ eo1452 (fun z hz => ?_) (fun z hz => ?_)
    · cases hz; exact ⟨rfl, rfl⟩
    · cases hz
  · refine tlJ1_indexOfChar_x4_L7 d _ n x3 x1.toInt8.toInt32 x2 I J rv sp rr w nw (.inr vb1453) eo1452 (fun z hz => ?_) (fun z hz => ?_)
    · cases hz
    · cases hz
      refine mm_T.seg (f' := (32, [none, none, none, none, none, none], [(.int (-1))])) (h' := (107, I, J, mm_rf rv sp rr w nw)) 1 rfl ?_
      cases e
      exact mm_T.ret rfl ⟨rfl, rfl⟩
set_option maxRecDepth 100000 in
set_option maxHeartbeats 4000000 in
theorem tJ1_indexOf_x4 (d n : Nat) (x1 : Int32) (x2 : Int32) (x3 : Int32) (I : Nat → Nat → Int32) (J : Nat → Nat → Int64) (rv sp rr w nw : Nat) (out : Int32) (e : fJ1_indexOf_x4 n x1 x2 x3 = some out) : mm_T none (d + 1) 341 (mm_ent 341 [(.retAddr 4), (.int x1), (.int x2), (.int x3)]) (107, I, J, mm_rf rv sp rr w nw) (fun v h => v = some (.int out) ∧ h = (107, I, J, mm_rf rv sp rr w nw)) := by
  unfold fJ1_indexOf_x4 at e
  refine mm_T.seg (f' := (1, [some (.retAddr 4), some (.int x1), some (.int x2), some (.int x3)], [(.int x1)])) (h' := (107, I, J, mm_rf rv sp rr w nw)) 1 rfl ?_
  refine mm_T.call (t := 340) (as := [(.int x1)]) (f' := (4, [some (.retAddr 4), some (.int x1), some (.int x2), some (.int x3)], [])) rfl (tJ1_canEncode (d + 0) x1 I J rv sp rr w nw _ rfl) (fun v h hq => ?_)
  obtain ⟨rfl, rfl⟩ := hq
  refine mm_T.br (c := (fJ1_canEncode x1) = 0) (a := ((7, [some (.retAddr 4), some (.int x1), some (.int x2), some (.int x3)], []), (107, I, J, mm_rf rv sp rr w nw))) (b := ((9, [some (.retAddr 4), some (.int x1), some (.int x2), some (.int x3)], []), (107, I, J, mm_rf rv sp rr w nw))) rfl (fun h1447 => ?_) (fun h1447 => ?_)
  · rw [if_pos h1447] at e
    refine mm_T.seg (f' := (8, [some (.retAddr 4), some (.int x1), some (.int x2), some (.int x3)], [(.int (-1))])) (h' := (107, I, J, mm_rf rv sp rr w nw)) 1 rfl ?_
    cases e
    exact mm_T.ret rfl ⟨rfl, rfl⟩
  · rw [if_neg h1447] at e
    refine mm_T.seg (f' := (11, [some (.retAddr 4), some (.int x1), some (.int x2), some (.int x3)], [(.int 0), (.int x2)])) (h' := (107, I, J, mm_rf rv sp rr w nw)) 2 rfl ?_
    refine mm_T.call (t := 347) (as := [(.int x2), (.int 0)]) (f' := (14, [some (.retAddr 4), some (.int x1), some (.int x2), some (.int x3)], [])) rfl (tJ9_max (d + 0) x2 0 I J rv sp rr w nw _ rfl) (fun v h hq => ?_)
    obtain ⟨rfl, rfl⟩ := hq
    refine mm_T.seg (f' := (18, [some (.retAddr 4), some (.int x1), some (.int (fJ9_max x2 0)), some (.int x3)], [(.int 11), (.int x3)])) (h' := (107, I, J, mm_rf rv sp rr w nw)) 4 rfl ?_
    refine mm_T.call (t := 348) (as := [(.int x3), (.int 11)]) (f' := (21, [some (.retAddr 4), some (.int x1), some (.int (fJ9_max x2 0)), some (.int x3)], [])) rfl (tJ9_min (d + 0) x3 11 I J rv sp rr w nw _ rfl) (fun v h hq => ?_)
    obtain ⟨rfl, rfl⟩ := hq
    refine mm_T.seg (f' := (24, [some (.retAddr 4), some (.int x1), some (.int (fJ9_max x2 0)), some (.int (fJ9_min x3 11))], [(.int (fJ9_min x3 11)), (.int (fJ9_max x2 0))])) (h' := (107, I, J, mm_rf rv sp rr w nw)) 3 rfl ?_
    refine mm_T.br (c := (fJ9_max x2 0) < (fJ9_min x3 11)) (a := ((29, [some (.retAddr 4), some (.int x1), some (.int (fJ9_max x2 0)), some (.int (fJ9_min x3 11))], []), (107, I, J, mm_rf rv sp rr w nw))) (b := ((27, [some (.retAddr 4), some (.int x1), some (.int (fJ9_max x2 0)), some (.int (fJ9_min x3 11))], []), (107, I, J, mm_rf rv sp rr w nw))) rfl (fun h1448 => ?_) (fun h1448 => ?_)
    · rw [if_pos h1448] at e
      refine mm_T.seg (f' := (33, [some (.retAddr 4), some (.int x1), some (.int (fJ9_max x2 0)), some (.int (fJ9_min x3 11))], [(.int (fJ9_min x3 11)), (.int (fJ9_max x2 0)), (.int x1), (.retAddr 4)])) (h' := (107, I, J, mm_rf rv sp rr w nw)) 4 rfl ?_
      obtain ⟨o1454, eo1454, e⟩ := mm_bind e
      refine mm_T.call (t := 342) (as := [(.retAddr 4), (.int x1), (.int (fJ9_max x2 0)), (.int (fJ9_min x3 11))]) (f' := (36, [some (.retAddr 4), some (.int x1), some (.int (fJ9_max x2 0)), some (.int (fJ9_min x3 11))], [])) rfl (tJ1_indexOfChar_x4 (d + 0) n x1 (fJ9_max x2 0) (fJ9_min x3 11) I J rv sp rr w nw o1454 eo1454) (fun v h hq => ?_)
      obtain ⟨rfl, rfl⟩ := hq
      cases e
      exact mm_T.ret rfl ⟨rfl, rfl⟩
    · rw [if_neg h1448] at e
      refine mm_T.seg (f' := (28, [some (.retAddr 4), some (.int x1), some (.int (fJ9_max x2 0)), some (.int (fJ9_min x3 11))], [(.int (-1))])) (h' := (107, I, J, mm_rf rv sp rr w nw)) 1 rfl ?_
      cases e
      exact mm_T.ret rfl ⟨rfl, rfl⟩
set_option maxRecDepth 100000 in
set_option maxHeartbeats 4000000 in
theorem tJ0_indexOf_x2' (d n : Nat) (x1 : Int32) (x2 : Int32) (I : Nat → Nat → Int32) (J : Nat → Nat → Int64) (rv sp rr w nw : Nat) (out : Int32) (e : fJ0_indexOf_x2' n x1 x2 = some out) : mm_T none (d + 2) 335 (mm_ent 335 [(.retAddr 2), (.int x1), (.int x2)]) (107, I, J, mm_rf rv sp rr w nw) (fun v h => v = some (.int out) ∧ h = (107, I, J, mm_rf rv sp rr w nw)) := by
  unfold fJ0_indexOf_x2' at e
  refine mm_T.seg (f' := (1, [some (.retAddr 2), some (.int x1), some (.int x2)], [(.retAddr 2)])) (h' := (107, I, J, mm_rf rv sp rr w nw)) 1 rfl ?_
  refine mm_T.call (t := 337) (as := [(.retAddr 2)]) (f' := (4, [some (.retAddr 2), some (.int x1), some (.int x2)], [])) rfl (tJ0_isLatin1_x2 (d + 1) I J rv sp rr w nw _ rfl) (fun v h hq => ?_)
  obtain ⟨rfl, rfl⟩ := hq
  refine mm_T.seg (f' := (14, [some (.retAddr 2), some (.int x1), some (.int x2)], [(.retAddr 2), (.int x2), (.int x1), (.retAddr 4)])) (h' := (107, I, J, mm_rf rv sp rr w nw)) 6 rfl ?_
  refine mm_T.call (t := 332) (as := [(.retAddr 2)]) (f' := (17, [some (.retAddr 2), some (.int x1), some (.int x2)], [(.int x2), (.int x1), (.retAddr 4)])) rfl (tJ0_length_x2 (d + 0) I J rv sp rr w nw _ rfl) (fun v h hq => ?_)
  obtain ⟨rfl, rfl⟩ := hq
  obtain ⟨o1455, eo1455, e⟩ := mm_bind e
  refine mm_T.call (t := 341) (as := [(.retAddr 4), (.int x1), (.int x2), (.int (fJ0_length_x2))]) (f' := (20, [some (.retAddr 2), some (.int x1), some (.int x2)], [])) rfl (tJ1_indexOf_x4 (d + 0) n x1 x2 (fJ0_length_x2) I J rv sp rr w nw o1455 eo1455) (fun v h hq => ?_)
  obtain ⟨rfl, rfl⟩ := hq
  refine mm_T.seg (f' := (36, [some (.retAddr 2), some (.int x1), some (.int x2)], [(.int o1455)])) (h' := (107, I, J, mm_rf rv sp rr w nw)) 1 rfl ?_
  cases e
  exact mm_T.ret rfl ⟨rfl, rfl⟩
set_option maxRecDepth 100000 in
set_option maxHeartbeats 4000000 in
theorem tJ0_indexOf_x2 (d n : Nat) (x1 : Int32) (I : Nat → Nat → Int32) (J : Nat → Nat → Int64) (rv sp rr w nw : Nat) (out : Int32) (e : fJ0_indexOf_x2 n x1 = some out) : mm_T none (d + 3) 334 (mm_ent 334 [(.retAddr 2), (.int x1)]) (107, I, J, mm_rf rv sp rr w nw) (fun v h => v = some (.int out) ∧ h = (107, I, J, mm_rf rv sp rr w nw)) := by
  unfold fJ0_indexOf_x2 at e
  refine mm_T.seg (f' := (3, [some (.retAddr 2), some (.int x1)], [(.int 0), (.int x1), (.retAddr 2)])) (h' := (107, I, J, mm_rf rv sp rr w nw)) 3 rfl ?_
  obtain ⟨o1456, eo1456, e⟩ := mm_bind e
  refine mm_T.call (t := 335) (as := [(.retAddr 2), (.int x1), (.int 0)]) (f' := (6, [some (.retAddr 2), some (.int x1)], [])) rfl (tJ0_indexOf_x2' (d + 0) n x1 0 I J rv sp rr w nw o1456 eo1456) (fun v h hq => ?_)
  obtain ⟨rfl, rfl⟩ := hq
  cases e
  exact mm_T.ret rfl ⟨rfl, rfl⟩
set_option maxRecDepth 100000 in
set_option maxHeartbeats 4000000 in
theorem tlX4_takeNumber_L5 (d : Nat) (Q : Option Value → mm_H → Prop) : ∀ (n : Nat) (I : Nat → Nat → Int32) (J : Nat → Nat → Int64) (rv sp rr w nw : Nat), ∀ (out : (Nat → Nat → Int32)), fX4_takeNumber_L5 n I = some out → mm_T none (d + 1) 36 (66, [some (.ref 16), none], []) (107, out, J, mm_rf rv sp rr w nw) Q → mm_T none (d + 1) 36 (5, [some (.ref 16), none], []) (107, I, J, mm_rf rv sp rr w nw) Q := by
  intro n
  induction n with
  | zero =>
    intro I J rv sp rr w nw out e k
    rw [fX4_takeNumber_L5] at e; cases e
  | succ n ih =>
    intro I J rv sp rr w nw out e k
    rw [fX4_takeNumber_L5] at e
    refine mm_T.seg (f' := (13, [some (.ref 16), none], [(.int (I 16 2)), (.int (I 16 4))])) (h' := (107, I, J, mm_rf rv sp rr w nw)) 4 rfl ?_
    refine mm_T.br (c := (I 16 4) < (I 16 2)) (a := ((16, [some (.ref 16), none], []), (107, I, J, mm_rf rv sp rr w nw))) (b := ((66, [some (.ref 16), none], []), (107, I, J, mm_rf rv sp rr w nw))) rfl (fun h1459 => ?_) (fun h1459 => ?_)
    · rw [if_pos h1459] at e
      refine mm_T.seg (f' := (21, [some (.ref 16), none], [(.int (I 16 4)), (.ref 16)])) (h' := (107, I, J, mm_rf rv sp rr w nw)) 3 rfl ?_
      obtain ⟨o1460, eo1460, e⟩ := mm_bind e
      refine mm_T.call (t := 31) (as := [(.ref 16), (.int (I 16 4))]) (f' := (24, [some (.ref 16), none], [])) rfl (tX4_byteAt (d + 0) (I 16 4) I J rv sp rr w nw o1460 eo1460) (fun v h hq => ?_)
      obtain ⟨rfl, rfl⟩ := hq
      obtain ⟨g208, hg208⟩ : ∃ z, fX4_isDigit o1460 = z := ⟨_, rfl⟩
      try rw [hg208] at e
      refine mm_T.call (t := 33) (as := [(.int o1460)]) (f' := (27, [some (.ref 16), none], [])) rfl (tX4_isDigit (d + 0) o1460 I J rv sp rr w nw g208 hg208) (fun v h hq => ?_)
      obtain ⟨rfl, rfl⟩ := hq
      refine mm_T.br (c := g208 = 0) (a := ((66, [some (.ref 16), none], []), (107, I, J, mm_rf rv sp rr w nw))) (b := ((30, [some (.ref 16), none], []), (107, I, J, mm_rf rv sp rr w nw))) rfl (fun h1461 => ?_) (fun h1461 => ?_)
      · rw [if_pos h1461] at e
        cases e
        refine mm_T.mask [true, false] ?_
        exact k
      · rw [if_neg h1461] at e
        refine mm_T.seg (f' := (43, [some (.ref 16), none], [(.int (I 16 4)), (.ref 16), (.int ((I 16 6) * 10)), (.ref 16)])) (h' := (107, I, J, mm_rf rv sp rr w nw)) 8 rfl ?_
        obtain ⟨o1462, eo1462, e⟩ := mm_bind e
        refine mm_T.call (t := 31) (as := [(.ref 16), (.int (I 16 4))]) (f' := (46, [some (.ref 16), none], [(.int ((I 16 6) * 10)), (.ref 16)])) rfl (tX4_byteAt (d + 0) (I 16 4) I J rv sp rr w nw o1462 eo1462) (fun v h hq => ?_)
        obtain ⟨rfl, rfl⟩ := hq
        refine mm_T.seg (f' := (5, [some (.ref 16), none], [])) (h' := (107, (mm_up (mm_up I 16 6 (((I 16 6) * 10) + (o1462 - 48))) 16 4 ((I 16 4) + 1)), J, mm_rf rv sp rr w nw)) 11 rfl ?_
        refine mm_T.mask [true, false] ?_
        exact ih (mm_up (mm_up I 16 6 (((I 16 6) * 10) + (o1462 - 48))) 16 4 ((I 16 4) + 1)) J rv sp rr w nw out e k
    · rw [if_neg h1459] at e
      cases e
      refine mm_T.mask [true, false] ?_
      exact k
set_option maxRecDepth 100000 in
set_option maxHeartbeats 4000000 in
theorem tbX4_takeNumber_J96 (d : Nat) (u0 : Int32) (I : Nat → Nat → Int32) (J : Nat → Nat → Int64) (rv sp rr w nw : Nat) (out : (Nat → Nat → Int32)) (e : fX4_takeNumber_J96 u0 I = some out) : mm_T none (d + 1) 36 (96, [some (.ref 16), none], [(.int u0)]) (107, I, J, mm_rf rv sp rr w nw) (fun v h => v = none ∧ h = (107, out, J, mm_rf rv sp rr w nw)) := by
  unfold fX4_takeNumber_J96 at e
  refine mm_T.seg (f' := (108, [some (.ref 16), some (.int u0)], [(.int 4), (.int ((I 16 4) - (I 16 3))), (.ref 16)])) (h' := (107, I, J, mm_rf rv sp rr w nw)) 8 rfl ?_
  refine mm_T.br (c := 4 < ((I 16 4) - (I 16 3))) (a := ((115, [some (.ref 16), some (.int u0)], [(.ref 16)]), (107, I, J, mm_rf rv sp rr w nw))) (b := ((111, [some (.ref 16), some (.int u0)], [(.ref 16)]), (107, I, J, mm_rf rv sp rr w nw))) rfl (fun h1467 => ?_) (fun h1467 => ?_)
  · rw [if_pos h1467] at e
    refine mm_T.seg (f' := (123, [some (.ref 16), some (.int u0)], [])) (h' := (107, (mm_up I 16 5 4), J, mm_rf rv sp rr w nw)) 3 rfl ?_
    cases e
    exact mm_T.ret rfl ⟨rfl, rfl⟩
  · rw [if_neg h1467] at e
    refine mm_T.seg (f' := (112, [some (.ref 16), some (.int u0)], [(.int u0), (.ref 16)])) (h' := (107, I, J, mm_rf rv sp rr w nw)) 1 rfl ?_
    refine mm_T.br (c := u0 = 0) (a := ((119, [some (.ref 16), some (.int u0)], [(.ref 16)]), (107, I, J, mm_rf rv sp rr w nw))) (b := ((115, [some (.ref 16), some (.int u0)], [(.ref 16)]), (107, I, J, mm_rf rv sp rr w nw))) rfl (fun h1468 => ?_) (fun h1468 => ?_)
    · rw [if_pos h1468] at e
      refine mm_T.seg (f' := (123, [some (.ref 16), some (.int u0)], [])) (h' := (107, (mm_up I 16 5 2), J, mm_rf rv sp rr w nw)) 2 rfl ?_
      cases e
      exact mm_T.ret rfl ⟨rfl, rfl⟩
    · rw [if_neg h1468] at e
      refine mm_T.seg (f' := (123, [some (.ref 16), some (.int u0)], [])) (h' := (107, (mm_up I 16 5 4), J, mm_rf rv sp rr w nw)) 3 rfl ?_
      cases e
      exact mm_T.ret rfl ⟨rfl, rfl⟩
set_option maxRecDepth 100000 in
set_option maxHeartbeats 4000000 in
theorem tbX4_takeNumber_J95 (d : Nat) (I : Nat → Nat → Int32) (J : Nat → Nat → Int64) (rv sp rr w nw : Nat) (out : (Nat → Nat → Int32)) (e : fX4_takeNumber_J95 I = some out) : mm_T none (d + 1) 36 (95, [some (.ref 16), none], []) (107, I, J, mm_rf rv sp rr w nw) (fun v h => v = none ∧ h = (107, out, J, mm_rf rv sp rr w nw)) := by
  unfold fX4_takeNumber_J95 at e
  refine mm_T.seg (f' := (96, [some (.ref 16), none], [(.int 0)])) (h' := (107, I, J, mm_rf rv sp rr w nw)) 1 rfl ?_
  refine mm_T.mask [true, false] ?_
  exact tbX4_takeNumber_J96 d 0 I J rv sp rr w nw out e
set_option maxRecDepth 100000 in
set_option maxHeartbeats 4000000 in
theorem tbX4_takeNumber_J66 (d : Nat) (I : Nat → Nat → Int32) (J : Nat → Nat → Int64) (rv sp rr w nw : Nat) (out : (Nat → Nat → Int32)) (e : fX4_takeNumber_J66 I = some out) : mm_T none (d + 1) 36 (66, [some (.ref 16), none], []) (107, I, J, mm_rf rv sp rr w nw) (fun v h => v = none ∧ h = (107, out, J, mm_rf rv sp rr w nw)) := by
  unfold fX4_takeNumber_J66 at e
  refine mm_T.seg (f' := (74, [some (.ref 16), none], [(.int (I 16 2)), (.int (I 16 4))])) (h' := (107, I, J, mm_rf rv sp rr w nw)) 4 rfl ?_
  refine mm_T.br (c := (I 16 4) < (I 16 2)) (a := ((77, [some (.ref 16), none], []), (107, I, J, mm_rf rv sp rr w nw))) (b := ((95, [some (.ref 16), none], []), (107, I, J, mm_rf rv sp rr w nw))) rfl (fun h1464 => ?_) (fun h1464 => ?_)
  · rw [if_pos h1464] at e
    refine mm_T.seg (f' := (82, [some (.ref 16), none], [(.int (I 16 4)), (.ref 16)])) (h' := (107, I, J, mm_rf rv sp rr w nw)) 3 rfl ?_
    obtain ⟨o1465, eo1465, e⟩ := mm_bind e
    refine mm_T.call (t := 31) (as := [(.ref 16), (.int (I 16 4))]) (f' := (85, [some (.ref 16), none], [])) rfl (tX4_byteAt (d + 0) (I 16 4) I J rv sp rr w nw o1465 eo1465) (fun v h hq => ?_)
    obtain ⟨rfl, rfl⟩ := hq
    obtain ⟨g209, hg209⟩ : ∃ z, fX4_isLetter o1465 = z := ⟨_, rfl⟩
    try rw [hg209] at e
    refine mm_T.call (t := 32) (as := [(.int o1465)]) (f' := (88, [some (.ref 16), none], [])) rfl (tX4_isLetter (d + 0) o1465 I J rv sp rr w nw g209 hg209) (fun v h hq => ?_)
    obtain ⟨rfl, rfl⟩ := hq
    refine mm_T.br (c := g209 = 0) (a := ((95, [some (.ref 16), none], []), (107, I, J, mm_rf rv sp rr w nw))) (b := ((91, [some (.ref 16), none], []), (107, I, J, mm_rf rv sp rr w nw))) rfl (fun h1466 => ?_) (fun h1466 => ?_)
    · rw [if_pos h1466] at e
      refine mm_T.mask [true, false] ?_
      exact tbX4_takeNumber_J95 d I J rv sp rr w nw out e
    · rw [if_neg h1466] at e
      refine mm_T.seg (f' := (96, [some (.ref 16), none], [(.int 1)])) (h' := (107, I, J, mm_rf rv sp rr w nw)) 2 rfl ?_
      refine mm_T.mask [true, false] ?_
      exact tbX4_takeNumber_J96 d 1 I J rv sp rr w nw out e
  · rw [if_neg h1464] at e
    refine mm_T.mask [true, false] ?_
    exact tbX4_takeNumber_J95 d I J rv sp rr w nw out e
set_option maxRecDepth 100000 in
set_option maxHeartbeats 4000000 in
theorem tX4_takeNumber (d n : Nat) (I : Nat → Nat → Int32) (J : Nat → Nat → Int64) (rv sp rr w nw : Nat) (out : (Nat → Nat → Int32)) (e : fX4_takeNumber n I = some out) : mm_T none (d + 1) 36 (mm_ent 36 [(.ref 16)]) (107, I, J, mm_rf rv sp rr w nw) (fun v h => v = none ∧ h = (107, out, J, mm_rf rv sp rr w nw)) := by
  unfold fX4_takeNumber at e
  refine mm_T.seg (f' := (5, [some (.ref 16), none], [])) (h' := (107, (mm_up I 16 6 0), J, mm_rf rv sp rr w nw)) 3 rfl ?_
  refine mm_T.mask [true, false] ?_
  obtain ⟨o1463, eo1463, e⟩ := mm_bind e
  refine tlX4_takeNumber_L5 d _ n (mm_up I 16 6 0) J rv sp rr w nw o1463 eo1463 ?_
  refine mm_T.mask [true, false] ?_
  exact tbX4_takeNumber_J66 d o1463 J rv sp rr w nw out e
set_option maxRecDepth 100000 in
set_option maxHeartbeats 4000000 in
theorem tlX4_ownWord_L2 (d : Nat) (Q : Option Value → mm_H → Prop) : ∀ (n : Nat) (y1 : Int64) (y3 : Int32) (I : Nat → Nat → Int32) (J : Nat → Nat → Int64) (rv sp rr w nw : Nat), ∀ (out : (Int32 ⊕ (Unit))), fX4_ownWord_L2 n y1 y3 J = some out → (∀ (r : Int32), out = .inl r → Q (some (.int r)) (107, I, J, mm_rf rv sp rr w nw)) → (∀ (y : Unit), out = .inr y → mm_T none (d + 0) 37 (27, [none, none, none, none], []) (107, I, J, mm_rf rv sp rr w nw) Q) → mm_T none (d + 0) 37 (2, [some (.ref 16), some (.long y1), none, some (.int y3)], []) (107, I, J, mm_rf rv sp rr w nw) Q := by
  intro n
  induction n with
  | zero =>
    intro y1 y3 I J rv sp rr w nw out e kr ke
    rw [fX4_ownWord_L2] at e; cases e
  | succ n ih =>
    intro y1 y3 I J rv sp rr w nw out e kr ke
    rw [fX4_ownWord_L2] at e
    refine mm_T.seg (f' := (5, [some (.ref 16), some (.long y1), none, some (.int y3)], [(.int 19), (.int y3)])) (h' := (107, I, J, mm_rf rv sp rr w nw)) 2 rfl ?_
    refine mm_T.br (c := y3 < 19) (a := ((8, [some (.ref 16), some (.long y1), none, some (.int y3)], []), (107, I, J, mm_rf rv sp rr w nw))) (b := ((27, [some (.ref 16), some (.long y1), none, some (.int y3)], []), (107, I, J, mm_rf rv sp rr w nw))) rfl (fun h1480 => ?_) (fun h1480 => ?_)
    · rw [if_pos h1480] at e
      refine mm_T.seg (f' := (12, [some (.ref 16), some (.long y1), none, some (.int y3)], [(.ref 17)])) (h' := (107, I, J, mm_rf rv sp rr w nw)) 2 rfl ?_
      refine mm_T.seg (f' := (13, [some (.ref 16), some (.long y1), none, some (.int y3)], [(.int y3), (.ref 17)])) (h' := (107, I, J, mm_rf rv sp rr w nw)) 1 rfl ?_
      by_cases h1481 : y3 < 0 ∨ 19 ≤ y3.toNatClampNeg
      · rw [if_pos h1481] at e; cases e
      rw [if_neg h1481] at e
      refine mm_T.guard (y := ((14, [some (.ref 16), some (.long y1), none, some (.int y3)], [(.long (J 17 y3.toNatClampNeg))]), (107, I, J, mm_rf rv sp rr w nw))) rfl h1481 ?_
      refine mm_T.seg (f' := (16, [some (.ref 16), some (.long y1), none, some (.int y3)], [(.int (lg_cmp (J 17 y3.toNatClampNeg) y1))])) (h' := (107, I, J, mm_rf rv sp rr w nw)) 2 rfl ?_
      refine mm_T.br (c := (lg_cmp (J 17 y3.toNatClampNeg) y1) = 0) (a := ((19, [some (.ref 16), some (.long y1), none, some (.int y3)], []), (107, I, J, mm_rf rv sp rr w nw))) (b := ((21, [some (.ref 16), some (.long y1), none, some (.int y3)], []), (107, I, J, mm_rf rv sp rr w nw))) rfl (fun h1482 => ?_) (fun h1482 => ?_)
      · rw [if_pos h1482] at e
        refine mm_T.seg (f' := (20, [some (.ref 16), some (.long y1), none, some (.int y3)], [(.int y3)])) (h' := (107, I, J, mm_rf rv sp rr w nw)) 1 rfl ?_
        cases e
        exact mm_T.ret rfl (kr _ rfl)
      · rw [if_neg h1482] at e
        refine mm_T.seg (f' := (2, [some (.ref 16), some (.long y1), none, some (.int (y3 + 1))], [])) (h' := (107, I, J, mm_rf rv sp rr w nw)) 2 rfl ?_
        refine mm_T.mask [true, true, false, true] ?_
        exact ih y1 (y3 + 1) I J rv sp rr w nw out e kr ke
    · rw [if_neg h1480] at e
      cases e
      refine mm_T.mask [false, false, false, false] ?_
      exact ke _ rfl
set_option maxRecDepth 100000 in
set_option maxHeartbeats 4000000 in
theorem tX4_ownWord (d n : Nat) (x1 : Int64) (I : Nat → Nat → Int32) (J : Nat → Nat → Int64) (rv sp rr w nw : Nat) (out : Int32) (e : fX4_ownWord n x1 J = some out) : mm_T none (d + 0) 37 (mm_ent 37 [(.ref 16), (.long x1)]) (107, I, J, mm_rf rv sp rr w nw) (fun v h => v = some (.int out) ∧ h = (107, I, J, mm_rf rv sp rr w nw)) := by
  unfold fX4_ownWord at e
  refine mm_T.seg (f' := (2, [some (.ref 16), some (.long x1), none, some (.int 0)], [])) (h' := (107, I, J, mm_rf rv sp rr w nw)) 2 rfl ?_
  refine mm_T.mask [true, true, false, true] ?_
  obtain ⟨o1483, eo1483, e⟩ := mm_bind e
  rcases o1483 with va1484 | vb1484
  · cases e
    refine tlX4_ownWord_L2 d _ n x1 0 I J rv sp rr w nw _ eo1483 (fun z hz => ?_) (fun z hz => ?_)
    · cases hz; exact ⟨rfl, rfl⟩
    · cases hz
  · refine tlX4_ownWord_L2 d _ n x1 0 I J rv sp rr w nw (.inr vb1484) eo1483 (fun z hz => ?_) (fun z hz => ?_)
    · cases hz
    · cases hz
      refine mm_T.seg (f' := (28, [none, none, none, none], [(.int (-1))])) (h' := (107, I, J, mm_rf rv sp rr w nw)) 1 rfl ?_
      cases e
      exact mm_T.ret rfl ⟨rfl, rfl⟩
set_option maxRecDepth 100000 in
set_option maxHeartbeats 4000000 in
theorem tlX4_takeWord_L5 (d : Nat) (Q : Option Value → mm_H → Prop) : ∀ (n : Nat) (I : Nat → Nat → Int32) (J : Nat → Nat → Int64) (rv sp rr w nw : Nat), ∀ (out : (Nat → Nat → Int32) × (Nat → Nat → Int64)), fX4_takeWord_L5 n I J = some out → mm_T none (d + 1) 35 (62, [some (.ref 16)], []) (107, out.1, out.2, mm_rf rv sp rr w nw) Q → mm_T none (d + 1) 35 (5, [some (.ref 16)], []) (107, I, J, mm_rf rv sp rr w nw) Q := by
  intro n
  induction n with
  | zero =>
    intro I J rv sp rr w nw out e k
    rw [fX4_takeWord_L5] at e; cases e
  | succ n ih =>
    intro I J rv sp rr w nw out e k
    rw [fX4_takeWord_L5] at e
    refine mm_T.seg (f' := (13, [some (.ref 16)], [(.int (I 16 2)), (.int (I 16 4))])) (h' := (107, I, J, mm_rf rv sp rr w nw)) 4 rfl ?_
    refine mm_T.br (c := (I 16 4) < (I 16 2)) (a := ((16, [some (.ref 16)], []), (107, I, J, mm_rf rv sp rr w nw))) (b := ((62, [some (.ref 16)], []), (107, I, J, mm_rf rv sp rr w nw))) rfl (fun h1470 => ?_) (fun h1470 => ?_)
    · rw [if_pos h1470] at e
      refine mm_T.seg (f' := (21, [some (.ref 16)], [(.int (I 16 4)), (.ref 16)])) (h' := (107, I, J, mm_rf rv sp rr w nw)) 3 rfl ?_
      obtain ⟨o1471, eo1471, e⟩ := mm_bind e
      refine mm_T.call (t := 31) (as := [(.ref 16), (.int (I 16 4))]) (f' := (24, [some (.ref 16)], [])) rfl (tX4_byteAt (d + 0) (I 16 4) I J rv sp rr w nw o1471 eo1471) (fun v h hq => ?_)
      obtain ⟨rfl, rfl⟩ := hq
      obtain ⟨g210, hg210⟩ : ∃ z, fX4_isLetter o1471 = z := ⟨_, rfl⟩
      try rw [hg210] at e
      refine mm_T.call (t := 32) (as := [(.int o1471)]) (f' := (27, [some (.ref 16)], [])) rfl (tX4_isLetter (d + 0) o1471 I J rv sp rr w nw g210 hg210) (fun v h hq => ?_)
      obtain ⟨rfl, rfl⟩ := hq
      refine mm_T.br (c := g210 = 0) (a := ((62, [some (.ref 16)], []), (107, I, J, mm_rf rv sp rr w nw))) (b := ((30, [some (.ref 16)], []), (107, I, J, mm_rf rv sp rr w nw))) rfl (fun h1472 => ?_) (fun h1472 => ?_)
      · rw [if_pos h1472] at e
        cases e
        refine mm_T.mask [true] ?_
        exact k
      · rw [if_neg h1472] at e
        refine mm_T.seg (f' := (40, [some (.ref 16)], [(.int (I 16 4)), (.ref 16), (.long (J 16 8)), (.ref 16)])) (h' := (107, I, J, mm_rf rv sp rr w nw)) 6 rfl ?_
        obtain ⟨o1473, eo1473, e⟩ := mm_bind e
        refine mm_T.call (t := 31) (as := [(.ref 16), (.int (I 16 4))]) (f' := (43, [some (.ref 16)], [(.long (J 16 8)), (.ref 16)])) rfl (tX4_byteAt (d + 0) (I 16 4) I J rv sp rr w nw o1473 eo1473) (fun v h hq => ?_)
        obtain ⟨rfl, rfl⟩ := hq
        obtain ⟨g211, hg211⟩ : ∃ z, fX4_withLetter (J 16 8) o1473 = z := ⟨_, rfl⟩
        try rw [hg211] at e
        refine mm_T.call (t := 28) (as := [(.long (J 16 8)), (.int o1473)]) (f' := (46, [some (.ref 16)], [(.ref 16)])) rfl (tX4_withLetter (d + 0) (J 16 8) o1473 I J rv sp rr w nw g211 hg211) (fun v h hq => ?_)
        obtain ⟨rfl, rfl⟩ := hq
        refine mm_T.seg (f' := (5, [some (.ref 16)], [])) (h' := (107, (mm_up I 16 4 ((I 16 4) + 1)), (mm_up J 16 8 g211), mm_rf rv sp rr w nw)) 8 rfl ?_
        refine mm_T.mask [true] ?_
        exact ih (mm_up I 16 4 ((I 16 4) + 1)) (mm_up J 16 8 g211) rv sp rr w nw out e k
    · rw [if_neg h1470] at e
      cases e
      refine mm_T.mask [true] ?_
      exact k
set_option maxRecDepth 100000 in
set_option maxHeartbeats 4000000 in
theorem tbX4_takeWord_J82 (d n : Nat) (u0 : Int32) (I : Nat → Nat → Int32) (J : Nat → Nat → Int64) (rv sp rr w nw : Nat) (out : (Nat → Nat → Int32) × (Nat → Nat → Int64)) (e : fX4_takeWord_J82 n u0 I J = some out) : mm_T none (d + 1) 35 (82, [some (.ref 16)], [(.int u0), (.ref 16)]) (107, I, J, mm_rf rv sp rr w nw) (fun v h => v = none ∧ h = (107, out.1, out.2, mm_rf rv sp rr w nw)) := by
  unfold fX4_takeWord_J82 at e
  refine mm_T.seg (f' := (91, [some (.ref 16)], [(.int 1), (.int u0), (.ref 16)])) (h' := (107, (mm_up I 16 5 u0), J, mm_rf rv sp rr w nw)) 5 rfl ?_
  refine mm_T.br (c := u0 = 1) (a := ((94, [some (.ref 16)], [(.ref 16)]), (107, (mm_up I 16 5 u0), J, mm_rf rv sp rr w nw))) (b := ((105, [some (.ref 16)], [(.ref 16)]), (107, (mm_up I 16 5 u0), J, mm_rf rv sp rr w nw))) rfl (fun h1476 => ?_) (fun h1476 => ?_)
  · rw [if_pos h1476] at e
    refine mm_T.seg (f' := (99, [some (.ref 16)], [(.long (J 16 8)), (.ref 16), (.ref 16)])) (h' := (107, (mm_up I 16 5 u0), J, mm_rf rv sp rr w nw)) 3 rfl ?_
    obtain ⟨o1485, eo1485, e⟩ := mm_bind e
    refine mm_T.call (t := 37) (as := [(.ref 16), (.long (J 16 8))]) (f' := (102, [some (.ref 16)], [(.ref 16)])) rfl (tX4_ownWord (d + 0) n (J 16 8) (mm_up I 16 5 u0) J rv sp rr w nw o1485 eo1485) (fun v h hq => ?_)
    obtain ⟨rfl, rfl⟩ := hq
    refine mm_T.seg (f' := (109, [some (.ref 16)], [])) (h' := (107, (mm_up (mm_up I 16 5 u0) 16 7 o1485), J, mm_rf rv sp rr w nw)) 2 rfl ?_
    cases e
    exact mm_T.ret rfl ⟨rfl, rfl⟩
  · rw [if_neg h1476] at e
    refine mm_T.seg (f' := (109, [some (.ref 16)], [])) (h' := (107, (mm_up (mm_up I 16 5 u0) 16 7 (-1)), J, mm_rf rv sp rr w nw)) 2 rfl ?_
    cases e
    exact mm_T.ret rfl ⟨rfl, rfl⟩
set_option maxRecDepth 100000 in
set_option maxHeartbeats 4000000 in
theorem tbX4_takeWord_J62 (d n : Nat) (I : Nat → Nat → Int32) (J : Nat → Nat → Int64) (rv sp rr w nw : Nat) (out : (Nat → Nat → Int32) × (Nat → Nat → Int64)) (e : fX4_takeWord_J62 n I J = some out) : mm_T none (d + 1) 35 (62, [some (.ref 16)], []) (107, I, J, mm_rf rv sp rr w nw) (fun v h => v = none ∧ h = (107, out.1, out.2, mm_rf rv sp rr w nw)) := by
  unfold fX4_takeWord_J62 at e
  refine mm_T.seg (f' := (74, [some (.ref 16)], [(.int 8), (.int ((I 16 4) - (I 16 3))), (.ref 16)])) (h' := (107, I, J, mm_rf rv sp rr w nw)) 7 rfl ?_
  refine mm_T.br (c := 8 < ((I 16 4) - (I 16 3))) (a := ((77, [some (.ref 16)], [(.ref 16)]), (107, I, J, mm_rf rv sp rr w nw))) (b := ((81, [some (.ref 16)], [(.ref 16)]), (107, I, J, mm_rf rv sp rr w nw))) rfl (fun h1475 => ?_) (fun h1475 => ?_)
  · rw [if_pos h1475] at e
    refine mm_T.seg (f' := (82, [some (.ref 16)], [(.int 4), (.ref 16)])) (h' := (107, I, J, mm_rf rv sp rr w nw)) 2 rfl ?_
    refine mm_T.mask [true] ?_
    exact tbX4_takeWord_J82 d n 4 I J rv sp rr w nw out e
  · rw [if_neg h1475] at e
    refine mm_T.seg (f' := (82, [some (.ref 16)], [(.int 1), (.ref 16)])) (h' := (107, I, J, mm_rf rv sp rr w nw)) 1 rfl ?_
    refine mm_T.mask [true] ?_
    exact tbX4_takeWord_J82 d n 1 I J rv sp rr w nw out e
set_option maxRecDepth 100000 in
set_option maxHeartbeats 4000000 in
theorem tX4_takeWord (d n : Nat) (I : Nat → Nat → Int32) (J : Nat → Nat → Int64) (rv sp rr w nw : Nat) (out : (Nat → Nat → Int32) × (Nat → Nat → Int64)) (e : fX4_takeWord n I J = some out) : mm_T none (d + 1) 35 (mm_ent 35 [(.ref 16)]) (107, I, J, mm_rf rv sp rr w nw) (fun v h => v = none ∧ h = (107, out.1, out.2, mm_rf rv sp rr w nw)) := by
  unfold fX4_takeWord at e
  refine mm_T.seg (f' := (5, [some (.ref 16)], [])) (h' := (107, I, (mm_up J 16 8 0), mm_rf rv sp rr w nw)) 3 rfl ?_
  refine mm_T.mask [true] ?_
  obtain ⟨o1474, eo1474, e⟩ := mm_bind e
  refine tlX4_takeWord_L5 d _ n I (mm_up J 16 8 0) rv sp rr w nw o1474 eo1474 ?_
  refine mm_T.mask [true] ?_
  exact tbX4_takeWord_J62 d n o1474.1 o1474.2 rv sp rr w nw out e
set_option maxRecDepth 100000 in
set_option maxHeartbeats 4000000 in
theorem tlX4_advance_L5 (d : Nat) (Q : Option Value → mm_H → Prop) : ∀ (n : Nat) (y1 : Int32) (I : Nat → Nat → Int32) (J : Nat → Nat → Int64) (rv sp rr w nw : Nat), ∀ (out : Int32), fX4_advance_L5 n y1 I = some out → mm_T none (d + 4) 34 (39, [some (.ref 16), some (.int out)], []) (107, I, J, mm_rf rv sp rr w nw) Q → mm_T none (d + 4) 34 (5, [some (.ref 16), some (.int y1)], []) (107, I, J, mm_rf rv sp rr w nw) Q := by
  intro n
  induction n with
  | zero =>
    intro y1 I J rv sp rr w nw out e k
    rw [fX4_advance_L5] at e; cases e
  | succ n ih =>
    intro y1 I J rv sp rr w nw out e k
    rw [fX4_advance_L5] at e
    refine mm_T.seg (f' := (10, [some (.ref 16), some (.int y1)], [(.int (I 16 2)), (.int y1)])) (h' := (107, I, J, mm_rf rv sp rr w nw)) 3 rfl ?_
    refine mm_T.br (c := y1 < (I 16 2)) (a := ((13, [some (.ref 16), some (.int y1)], []), (107, I, J, mm_rf rv sp rr w nw))) (b := ((39, [some (.ref 16), some (.int y1)], []), (107, I, J, mm_rf rv sp rr w nw))) rfl (fun h1433 => ?_) (fun h1433 => ?_)
    · rw [if_pos h1433] at e
      refine mm_T.seg (f' := (15, [some (.ref 16), some (.int y1)], [(.int y1), (.ref 16)])) (h' := (107, I, J, mm_rf rv sp rr w nw)) 2 rfl ?_
      obtain ⟨o1434, eo1434, e⟩ := mm_bind e
      refine mm_T.call (t := 31) (as := [(.ref 16), (.int y1)]) (f' := (18, [some (.ref 16), some (.int y1)], [])) rfl (tX4_byteAt (d + 3) y1 I J rv sp rr w nw o1434 eo1434) (fun v h hq => ?_)
      obtain ⟨rfl, rfl⟩ := hq
      refine mm_T.seg (f' := (20, [some (.ref 16), some (.int y1)], [(.int 32), (.int o1434)])) (h' := (107, I, J, mm_rf rv sp rr w nw)) 1 rfl ?_
      refine mm_T.br (c := o1434 = 32) (a := ((33, [some (.ref 16), some (.int y1)], []), (107, I, J, mm_rf rv sp rr w nw))) (b := ((23, [some (.ref 16), some (.int y1)], []), (107, I, J, mm_rf rv sp rr w nw))) rfl (fun h1435 => ?_) (fun h1435 => ?_)
      · rw [if_pos h1435] at e
        refine mm_T.seg (f' := (5, [some (.ref 16), some (.int (y1 + 1))], [])) (h' := (107, I, J, mm_rf rv sp rr w nw)) 2 rfl ?_
        refine mm_T.mask [true, true] ?_
        exact ih (y1 + 1) I J rv sp rr w nw out e k
      · rw [if_neg h1435] at e
        refine mm_T.seg (f' := (25, [some (.ref 16), some (.int y1)], [(.int y1), (.ref 16)])) (h' := (107, I, J, mm_rf rv sp rr w nw)) 2 rfl ?_
        obtain ⟨o1436, eo1436, e⟩ := mm_bind e
        refine mm_T.call (t := 31) (as := [(.ref 16), (.int y1)]) (f' := (28, [some (.ref 16), some (.int y1)], [])) rfl (tX4_byteAt (d + 3) y1 I J rv sp rr w nw o1436 eo1436) (fun v h hq => ?_)
        obtain ⟨rfl, rfl⟩ := hq
        refine mm_T.seg (f' := (30, [some (.ref 16), some (.int y1)], [(.int 10), (.int o1436)])) (h' := (107, I, J, mm_rf rv sp rr w nw)) 1 rfl ?_
        refine mm_T.br (c := o1436 = 10) (a := ((33, [some (.ref 16), some (.int y1)], []), (107, I, J, mm_rf rv sp rr w nw))) (b := ((39, [some (.ref 16), some (.int y1)], []), (107, I, J, mm_rf rv sp rr w nw))) rfl (fun h1437 => ?_) (fun h1437 => ?_)
        · rw [if_pos h1437] at e
          refine mm_T.seg (f' := (5, [some (.ref 16), some (.int (y1 + 1))], [])) (h' := (107, I, J, mm_rf rv sp rr w nw)) 2 rfl ?_
          refine mm_T.mask [true, true] ?_
          exact ih (y1 + 1) I J rv sp rr w nw out e k
        · rw [if_neg h1437] at e
          cases e
          refine mm_T.mask [true, true] ?_
          exact k
    · rw [if_neg h1433] at e
      cases e
      refine mm_T.mask [true, true] ?_
      exact k
set_option maxRecDepth 100000 in
set_option maxHeartbeats 4000000 in
theorem tbX4_advance_J126 (d : Nat) (y1 : Int32) (u0 : Int32) (I : Nat → Nat → Int32) (J : Nat → Nat → Int64) (rv sp rr w nw : Nat) (out : (Nat → Nat → Int32) × (Nat → Nat → Int64)) (e : fX4_advance_J126 y1 u0 I J = some out) : mm_T none (d + 4) 34 (126, [some (.ref 16), some (.int y1)], [(.int u0), (.ref 16)]) (107, I, J, mm_rf rv sp rr w nw) (fun v h => v = none ∧ h = (107, out.1, out.2, mm_rf rv sp rr w nw)) := by
  unfold fX4_advance_J126 at e
  refine mm_T.seg (f' := (136, [some (.ref 16), some (.int y1)], [])) (h' := (107, (mm_up (mm_up I 16 5 u0) 16 4 (y1 + 1)), J, mm_rf rv sp rr w nw)) 6 rfl ?_
  cases e
  exact mm_T.ret rfl ⟨rfl, rfl⟩
set_option maxRecDepth 100000 in
set_option maxHeartbeats 4000000 in
theorem tbX4_advance_J39 (d n : Nat) (y1 : Int32) (I : Nat → Nat → Int32) (J : Nat → Nat → Int64) (rv sp rr w nw : Nat) (out : (Nat → Nat → Int32) × (Nat → Nat → Int64)) (e : fX4_advance_J39 n y1 I J = some out) : mm_T none (d + 4) 34 (39, [some (.ref 16), some (.int y1)], []) (107, I, J, mm_rf rv sp rr w nw) (fun v h => v = none ∧ h = (107, out.1, out.2, mm_rf rv sp rr w nw)) := by
  unfold fX4_advance_J39 at e
  refine mm_T.seg (f' := (59, [some (.ref 16), some (.int y1)], [(.int (I 16 2)), (.int y1)])) (h' := (107, (mm_up (mm_up (mm_up I 16 3 y1) 16 4 y1) 16 7 (-1)), J, mm_rf rv sp rr w nw)) 12 rfl ?_
  refine mm_T.br (c := y1 < (I 16 2)) (a := ((70, [some (.ref 16), some (.int y1)], []), (107, (mm_up (mm_up (mm_up I 16 3 y1) 16 4 y1) 16 7 (-1)), J, mm_rf rv sp rr w nw))) (b := ((62, [some (.ref 16), some (.int y1)], []), (107, (mm_up (mm_up (mm_up I 16 3 y1) 16 4 y1) 16 7 (-1)), J, mm_rf rv sp rr w nw))) rfl (fun h1439 => ?_) (fun h1439 => ?_)
  · rw [if_pos h1439] at e
    refine mm_T.seg (f' := (72, [some (.ref 16), some (.int y1)], [(.int y1), (.ref 16)])) (h' := (107, (mm_up (mm_up (mm_up I 16 3 y1) 16 4 y1) 16 7 (-1)), J, mm_rf rv sp rr w nw)) 2 rfl ?_
    obtain ⟨o1440, eo1440, e⟩ := mm_bind e
    refine mm_T.call (t := 31) (as := [(.ref 16), (.int y1)]) (f' := (75, [some (.ref 16), some (.int y1)], [])) rfl (tX4_byteAt (d + 3) y1 (mm_up (mm_up (mm_up I 16 3 y1) 16 4 y1) 16 7 (-1)) J rv sp rr w nw o1440 eo1440) (fun v h hq => ?_)
    obtain ⟨rfl, rfl⟩ := hq
    obtain ⟨g206, hg206⟩ : ∃ z, fX4_isLetter o1440 = z := ⟨_, rfl⟩
    try rw [hg206] at e
    refine mm_T.call (t := 32) (as := [(.int o1440)]) (f' := (78, [some (.ref 16), some (.int y1)], [])) rfl (tX4_isLetter (d + 3) o1440 (mm_up (mm_up (mm_up I 16 3 y1) 16 4 y1) 16 7 (-1)) J rv sp rr w nw g206 hg206) (fun v h hq => ?_)
    obtain ⟨rfl, rfl⟩ := hq
    refine mm_T.br (c := g206 = 0) (a := ((88, [some (.ref 16), some (.int y1)], []), (107, (mm_up (mm_up (mm_up I 16 3 y1) 16 4 y1) 16 7 (-1)), J, mm_rf rv sp rr w nw))) (b := ((81, [some (.ref 16), some (.int y1)], []), (107, (mm_up (mm_up (mm_up I 16 3 y1) 16 4 y1) 16 7 (-1)), J, mm_rf rv sp rr w nw))) rfl (fun h1441 => ?_) (fun h1441 => ?_)
    · rw [if_pos h1441] at e
      refine mm_T.seg (f' := (90, [some (.ref 16), some (.int y1)], [(.int y1), (.ref 16)])) (h' := (107, (mm_up (mm_up (mm_up I 16 3 y1) 16 4 y1) 16 7 (-1)), J, mm_rf rv sp rr w nw)) 2 rfl ?_
      obtain ⟨o1442, eo1442, e⟩ := mm_bind e
      refine mm_T.call (t := 31) (as := [(.ref 16), (.int y1)]) (f' := (93, [some (.ref 16), some (.int y1)], [])) rfl (tX4_byteAt (d + 3) y1 (mm_up (mm_up (mm_up I 16 3 y1) 16 4 y1) 16 7 (-1)) J rv sp rr w nw o1442 eo1442) (fun v h hq => ?_)
      obtain ⟨rfl, rfl⟩ := hq
      obtain ⟨g207, hg207⟩ : ∃ z, fX4_isDigit o1442 = z := ⟨_, rfl⟩
      try rw [hg207] at e
      refine mm_T.call (t := 33) (as := [(.int o1442)]) (f' := (96, [some (.ref 16), some (.int y1)], [])) rfl (tX4_isDigit (d + 3) o1442 (mm_up (mm_up (mm_up I 16 3 y1) 16 4 y1) 16 7 (-1)) J rv sp rr w nw g207 hg207) (fun v h hq => ?_)
      obtain ⟨rfl, rfl⟩ := hq
      refine mm_T.br (c := g207 = 0) (a := ((106, [some (.ref 16), some (.int y1)], []), (107, (mm_up (mm_up (mm_up I 16 3 y1) 16 4 y1) 16 7 (-1)), J, mm_rf rv sp rr w nw))) (b := ((99, [some (.ref 16), some (.int y1)], []), (107, (mm_up (mm_up (mm_up I 16 3 y1) 16 4 y1) 16 7 (-1)), J, mm_rf rv sp rr w nw))) rfl (fun h1443 => ?_) (fun h1443 => ?_)
      · rw [if_pos h1443] at e
        refine mm_T.seg (f' := (111, [some (.ref 16), some (.int y1)], [(.int y1), (.ref 16), (.retAddr 2), (.ref 16)])) (h' := (107, (mm_up (mm_up (mm_up I 16 3 y1) 16 4 y1) 16 7 (-1)), J, mm_rf rv sp rr w nw)) 4 rfl ?_
        obtain ⟨o1444, eo1444, e⟩ := mm_bind e
        refine mm_T.call (t := 31) (as := [(.ref 16), (.int y1)]) (f' := (114, [some (.ref 16), some (.int y1)], [(.retAddr 2), (.ref 16)])) rfl (tX4_byteAt (d + 3) y1 (mm_up (mm_up (mm_up I 16 3 y1) 16 4 y1) 16 7 (-1)) J rv sp rr w nw o1444 eo1444) (fun v h hq => ?_)
        obtain ⟨rfl, rfl⟩ := hq
        refine mm_T.seg (f' := (115, [some (.ref 16), some (.int y1)], [(.int (o1444.toUInt32 % 65536).toInt32), (.retAddr 2), (.ref 16)])) (h' := (107, (mm_up (mm_up (mm_up I 16 3 y1) 16 4 y1) 16 7 (-1)), J, mm_rf rv sp rr w nw)) 1 rfl ?_
        obtain ⟨o1457, eo1457, e⟩ := mm_bind e
        refine mm_T.call (t := 334) (as := [(.retAddr 2), (.int (o1444.toUInt32 % 65536).toInt32)]) (f' := (118, [some (.ref 16), some (.int y1)], [(.ref 16)])) rfl (tJ0_indexOf_x2 (d + 0) n (o1444.toUInt32 % 65536).toInt32 (mm_up (mm_up (mm_up I 16 3 y1) 16 4 y1) 16 7 (-1)) J rv sp rr w nw o1457 eo1457) (fun v h hq => ?_)
        obtain ⟨rfl, rfl⟩ := hq
        refine mm_T.br (c := o1457 < 0) (a := ((125, [some (.ref 16), some (.int y1)], [(.ref 16)]), (107, (mm_up (mm_up (mm_up I 16 3 y1) 16 4 y1) 16 7 (-1)), J, mm_rf rv sp rr w nw))) (b := ((121, [some (.ref 16), some (.int y1)], [(.ref 16)]), (107, (mm_up (mm_up (mm_up I 16 3 y1) 16 4 y1) 16 7 (-1)), J, mm_rf rv sp rr w nw))) rfl (fun h1458 => ?_) (fun h1458 => ?_)
        · rw [if_pos h1458] at e
          refine mm_T.seg (f' := (126, [some (.ref 16), some (.int y1)], [(.int 4), (.ref 16)])) (h' := (107, (mm_up (mm_up (mm_up I 16 3 y1) 16 4 y1) 16 7 (-1)), J, mm_rf rv sp rr w nw)) 1 rfl ?_
          refine mm_T.mask [true, true] ?_
          exact tbX4_advance_J126 d y1 4 (mm_up (mm_up (mm_up I 16 3 y1) 16 4 y1) 16 7 (-1)) J rv sp rr w nw out e
        · rw [if_neg h1458] at e
          refine mm_T.seg (f' := (126, [some (.ref 16), some (.int y1)], [(.int 3), (.ref 16)])) (h' := (107, (mm_up (mm_up (mm_up I 16 3 y1) 16 4 y1) 16 7 (-1)), J, mm_rf rv sp rr w nw)) 2 rfl ?_
          refine mm_T.mask [true, true] ?_
          exact tbX4_advance_J126 d y1 3 (mm_up (mm_up (mm_up I 16 3 y1) 16 4 y1) 16 7 (-1)) J rv sp rr w nw out e
      · rw [if_neg h1443] at e
        refine mm_T.seg (f' := (100, [some (.ref 16), some (.int y1)], [(.ref 16)])) (h' := (107, (mm_up (mm_up (mm_up I 16 3 y1) 16 4 y1) 16 7 (-1)), J, mm_rf rv sp rr w nw)) 1 rfl ?_
        obtain ⟨o1469, eo1469, e⟩ := mm_bind e
        refine mm_T.call (t := 36) (as := [(.ref 16)]) (f' := (103, [some (.ref 16), some (.int y1)], [])) rfl (tX4_takeNumber (d + 2) n (mm_up (mm_up (mm_up I 16 3 y1) 16 4 y1) 16 7 (-1)) J rv sp rr w nw o1469 eo1469) (fun v h hq => ?_)
        obtain ⟨rfl, rfl⟩ := hq
        refine mm_T.seg (f' := (136, [some (.ref 16), some (.int y1)], [])) (h' := (107, o1469, J, mm_rf rv sp rr w nw)) 1 rfl ?_
        cases e
        exact mm_T.ret rfl ⟨rfl, rfl⟩
    · rw [if_neg h1441] at e
      refine mm_T.seg (f' := (82, [some (.ref 16), some (.int y1)], [(.ref 16)])) (h' := (107, (mm_up (mm_up (mm_up I 16 3 y1) 16 4 y1) 16 7 (-1)), J, mm_rf rv sp rr w nw)) 1 rfl ?_
      obtain ⟨o1486, eo1486, e⟩ := mm_bind e
      refine mm_T.call (t := 35) (as := [(.ref 16)]) (f' := (85, [some (.ref 16), some (.int y1)], [])) rfl (tX4_takeWord (d + 2) n (mm_up (mm_up (mm_up I 16 3 y1) 16 4 y1) 16 7 (-1)) J rv sp rr w nw o1486 eo1486) (fun v h hq => ?_)
      obtain ⟨rfl, rfl⟩ := hq
      refine mm_T.seg (f' := (136, [some (.ref 16), some (.int y1)], [])) (h' := (107, o1486.1, o1486.2, mm_rf rv sp rr w nw)) 1 rfl ?_
      cases e
      exact mm_T.ret rfl ⟨rfl, rfl⟩
  · rw [if_neg h1439] at e
    refine mm_T.seg (f' := (136, [some (.ref 16), some (.int y1)], [])) (h' := (107, (mm_up (mm_up (mm_up (mm_up I 16 3 y1) 16 4 y1) 16 7 (-1)) 16 5 0), J, mm_rf rv sp rr w nw)) 4 rfl ?_
    cases e
    exact mm_T.ret rfl ⟨rfl, rfl⟩
set_option maxRecDepth 100000 in
set_option maxHeartbeats 4000000 in
theorem tX4_advance (d n : Nat) (I : Nat → Nat → Int32) (J : Nat → Nat → Int64) (rv sp rr w nw : Nat) (out : (Nat → Nat → Int32) × (Nat → Nat → Int64)) (e : fX4_advance n I J = some out) : mm_T none (d + 4) 34 (mm_ent 34 [(.ref 16)]) (107, I, J, mm_rf rv sp rr w nw) (fun v h => v = none ∧ h = (107, out.1, out.2, mm_rf rv sp rr w nw)) := by
  unfold fX4_advance at e
  refine mm_T.seg (f' := (5, [some (.ref 16), some (.int (I 16 4))], [])) (h' := (107, I, J, mm_rf rv sp rr w nw)) 3 rfl ?_
  refine mm_T.mask [true, true] ?_
  obtain ⟨o1438, eo1438, e⟩ := mm_bind e
  refine tlX4_advance_L5 d _ n (I 16 4) I J rv sp rr w nw o1438 eo1438 ?_
  refine mm_T.mask [true, true] ?_
  exact tbX4_advance_J39 d n o1438 I J rv sp rr w nw out e
set_option maxRecDepth 100000 in
set_option maxHeartbeats 4000000 in
theorem tX4_isWord (d : Nat) (x1 : Int32) (I : Nat → Nat → Int32) (J : Nat → Nat → Int64) (rv sp rr w nw : Nat) (out : Int32) (e : fX4_isWord x1 I = out) : mm_T none (d + 0) 38 (mm_ent 38 [(.ref 16), (.int x1)]) (107, I, J, mm_rf rv sp rr w nw) (fun v h => v = some (.int out) ∧ h = (107, I, J, mm_rf rv sp rr w nw)) := by
  unfold fX4_isWord at e
  refine mm_T.seg (f' := (5, [some (.ref 16), some (.int x1)], [(.int 1), (.int (I 16 5))])) (h' := (107, I, J, mm_rf rv sp rr w nw)) 3 rfl ?_
  refine mm_T.br (c := (I 16 5) = 1) (a := ((8, [some (.ref 16), some (.int x1)], []), (107, I, J, mm_rf rv sp rr w nw))) (b := ((20, [some (.ref 16), some (.int x1)], []), (107, I, J, mm_rf rv sp rr w nw))) rfl (fun h1487 => ?_) (fun h1487 => ?_)
  · rw [if_pos h1487] at e
    refine mm_T.seg (f' := (13, [some (.ref 16), some (.int x1)], [(.int x1), (.int (I 16 7))])) (h' := (107, I, J, mm_rf rv sp rr w nw)) 3 rfl ?_
    refine mm_T.br (c := (I 16 7) = x1) (a := ((16, [some (.ref 16), some (.int x1)], []), (107, I, J, mm_rf rv sp rr w nw))) (b := ((20, [some (.ref 16), some (.int x1)], []), (107, I, J, mm_rf rv sp rr w nw))) rfl (fun h1488 => ?_) (fun h1488 => ?_)
    · rw [if_pos h1488] at e
      refine mm_T.seg (f' := (21, [some (.ref 16), some (.int x1)], [(.int 1)])) (h' := (107, I, J, mm_rf rv sp rr w nw)) 2 rfl ?_
      cases e
      exact mm_T.ret rfl ⟨rfl, rfl⟩
    · rw [if_neg h1488] at e
      refine mm_T.seg (f' := (21, [some (.ref 16), some (.int x1)], [(.int 0)])) (h' := (107, I, J, mm_rf rv sp rr w nw)) 1 rfl ?_
      cases e
      exact mm_T.ret rfl ⟨rfl, rfl⟩
  · rw [if_neg h1487] at e
    refine mm_T.seg (f' := (21, [some (.ref 16), some (.int x1)], [(.int 0)])) (h' := (107, I, J, mm_rf rv sp rr w nw)) 1 rfl ?_
    cases e
    exact mm_T.ret rfl ⟨rfl, rfl⟩
set_option maxRecDepth 100000 in
set_option maxHeartbeats 4000000 in
theorem tX4_isSign (d : Nat) (x1 : Int32) (I : Nat → Nat → Int32) (J : Nat → Nat → Int64) (rv sp rr w nw : Nat) (out : Int32) (e : fX4_isSign x1 I = some out) : mm_T none (d + 1) 39 (mm_ent 39 [(.ref 16), (.int x1)]) (107, I, J, mm_rf rv sp rr w nw) (fun v h => v = some (.int out) ∧ h = (107, I, J, mm_rf rv sp rr w nw)) := by
  unfold fX4_isSign at e
  refine mm_T.seg (f' := (5, [some (.ref 16), some (.int x1)], [(.int 3), (.int (I 16 5))])) (h' := (107, I, J, mm_rf rv sp rr w nw)) 3 rfl ?_
  refine mm_T.br (c := (I 16 5) = 3) (a := ((8, [some (.ref 16), some (.int x1)], []), (107, I, J, mm_rf rv sp rr w nw))) (b := ((24, [some (.ref 16), some (.int x1)], []), (107, I, J, mm_rf rv sp rr w nw))) rfl (fun h1489 => ?_) (fun h1489 => ?_)
  · rw [if_pos h1489] at e
    refine mm_T.seg (f' := (13, [some (.ref 16), some (.int x1)], [(.int (I 16 3)), (.ref 16)])) (h' := (107, I, J, mm_rf rv sp rr w nw)) 3 rfl ?_
    obtain ⟨o1490, eo1490, e⟩ := mm_bind e
    refine mm_T.call (t := 31) (as := [(.ref 16), (.int (I 16 3))]) (f' := (16, [some (.ref 16), some (.int x1)], [])) rfl (tX4_byteAt (d + 0) (I 16 3) I J rv sp rr w nw o1490 eo1490) (fun v h hq => ?_)
    obtain ⟨rfl, rfl⟩ := hq
    refine mm_T.seg (f' := (17, [some (.ref 16), some (.int x1)], [(.int x1), (.int o1490)])) (h' := (107, I, J, mm_rf rv sp rr w nw)) 1 rfl ?_
    refine mm_T.br (c := o1490 = x1) (a := ((20, [some (.ref 16), some (.int x1)], []), (107, I, J, mm_rf rv sp rr w nw))) (b := ((24, [some (.ref 16), some (.int x1)], []), (107, I, J, mm_rf rv sp rr w nw))) rfl (fun h1491 => ?_) (fun h1491 => ?_)
    · rw [if_pos h1491] at e
      refine mm_T.seg (f' := (25, [some (.ref 16), some (.int x1)], [(.int 1)])) (h' := (107, I, J, mm_rf rv sp rr w nw)) 2 rfl ?_
      cases e
      exact mm_T.ret rfl ⟨rfl, rfl⟩
    · rw [if_neg h1491] at e
      refine mm_T.seg (f' := (25, [some (.ref 16), some (.int x1)], [(.int 0)])) (h' := (107, I, J, mm_rf rv sp rr w nw)) 1 rfl ?_
      cases e
      exact mm_T.ret rfl ⟨rfl, rfl⟩
  · rw [if_neg h1489] at e
    refine mm_T.seg (f' := (25, [some (.ref 16), some (.int x1)], [(.int 0)])) (h' := (107, I, J, mm_rf rv sp rr w nw)) 1 rfl ?_
    cases e
    exact mm_T.ret rfl ⟨rfl, rfl⟩
set_option maxRecDepth 100000 in
set_option maxHeartbeats 4000000 in
theorem tX4_passWord (d n : Nat) (x1 : Int32) (I : Nat → Nat → Int32) (J : Nat → Nat → Int64) (rv sp rr w nw : Nat) (out : Int32 × (Nat → Nat → Int32) × (Nat → Nat → Int64)) (e : fX4_passWord n x1 I J = some out) : mm_T none (d + 5) 40 (mm_ent 40 [(.ref 16), (.int x1)]) (107, I, J, mm_rf rv sp rr w nw) (fun v h => v = some (.int out.1) ∧ h = (107, out.2.1, out.2.2, mm_rf rv sp rr w nw)) := by
  unfold fX4_passWord at e
  refine mm_T.seg (f' := (2, [some (.ref 16), some (.int x1)], [(.int x1), (.ref 16)])) (h' := (107, I, J, mm_rf rv sp rr w nw)) 2 rfl ?_
  obtain ⟨g212, hg212⟩ : ∃ z, fX4_isWord x1 I = z := ⟨_, rfl⟩
  try rw [hg212] at e
  refine mm_T.call (t := 38) (as := [(.ref 16), (.int x1)]) (f' := (5, [some (.ref 16), some (.int x1)], [])) rfl (tX4_isWord (d + 4) x1 I J rv sp rr w nw g212 hg212) (fun v h hq => ?_)
  obtain ⟨rfl, rfl⟩ := hq
  refine mm_T.br (c := g212 = 0) (a := ((8, [some (.ref 16), some (.int x1)], []), (107, I, J, mm_rf rv sp rr w nw))) (b := ((14, [some (.ref 16), some (.int x1)], []), (107, I, J, mm_rf rv sp rr w nw))) rfl (fun h1492 => ?_) (fun h1492 => ?_)
  · rw [if_pos h1492] at e
    refine mm_T.seg (f' := (10, [some (.ref 16), some (.int x1)], [(.int 2), (.ref 16)])) (h' := (107, I, J, mm_rf rv sp rr w nw)) 2 rfl ?_
    obtain ⟨g213, hg213⟩ : ∃ z, fX4_refuse 2 I = z := ⟨_, rfl⟩
    try rw [hg213] at e
    refine mm_T.call (t := 30) (as := [(.ref 16), (.int 2)]) (f' := (13, [some (.ref 16), some (.int x1)], [])) rfl (tX4_refuse (d + 4) 2 I J rv sp rr w nw g213 hg213) (fun v h hq => ?_)
    obtain ⟨rfl, rfl⟩ := hq
    by_cases h1493 : g213.1 = 0 ∨ g213.1 = 1
    case neg => rw [if_neg h1493] at e; cases e
    rw [if_pos h1493] at e
    cases e
    first | exact mm_T.retZ (v := some (.int g213.1)) rfl h1493 ⟨rfl, rfl⟩ | exact mm_T.retZ (v := some (.int out)) rfl h1493 ⟨rfl, rfl⟩
  · rw [if_neg h1492] at e
    refine mm_T.seg (f' := (15, [some (.ref 16), some (.int x1)], [(.ref 16)])) (h' := (107, I, J, mm_rf rv sp rr w nw)) 1 rfl ?_
    obtain ⟨o1494, eo1494, e⟩ := mm_bind e
    refine mm_T.call (t := 34) (as := [(.ref 16)]) (f' := (18, [some (.ref 16), some (.int x1)], [])) rfl (tX4_advance (d + 0) n I J rv sp rr w nw o1494 eo1494) (fun v h hq => ?_)
    obtain ⟨rfl, rfl⟩ := hq
    refine mm_T.seg (f' := (19, [some (.ref 16), some (.int x1)], [(.int 1)])) (h' := (107, o1494.1, o1494.2, mm_rf rv sp rr w nw)) 1 rfl ?_
    cases e
    exact mm_T.ret rfl ⟨rfl, rfl⟩
set_option maxRecDepth 100000 in
set_option maxHeartbeats 4000000 in
theorem tX4_passEndOfLine (d n : Nat) (I : Nat → Nat → Int32) (J : Nat → Nat → Int64) (rv sp rr w nw : Nat) (out : Int32 × (Nat → Nat → Int32) × (Nat → Nat → Int64)) (e : fX4_passEndOfLine n I J = some out) : mm_T none (d + 5) 41 (mm_ent 41 [(.ref 16)]) (107, I, J, mm_rf rv sp rr w nw) (fun v h => v = some (.int out.1) ∧ h = (107, out.2.1, out.2.2, mm_rf rv sp rr w nw)) := by
  unfold fX4_passEndOfLine at e
  refine mm_T.seg (f' := (3, [some (.ref 16)], [(.int 59), (.ref 16)])) (h' := (107, I, J, mm_rf rv sp rr w nw)) 2 rfl ?_
  obtain ⟨o1495, eo1495, e⟩ := mm_bind e
  refine mm_T.call (t := 39) (as := [(.ref 16), (.int 59)]) (f' := (6, [some (.ref 16)], [])) rfl (tX4_isSign (d + 3) 59 I J rv sp rr w nw o1495 eo1495) (fun v h hq => ?_)
  obtain ⟨rfl, rfl⟩ := hq
  refine mm_T.br (c := o1495 = 0) (a := ((9, [some (.ref 16)], []), (107, I, J, mm_rf rv sp rr w nw))) (b := ((15, [some (.ref 16)], []), (107, I, J, mm_rf rv sp rr w nw))) rfl (fun h1496 => ?_) (fun h1496 => ?_)
  · rw [if_pos h1496] at e
    refine mm_T.seg (f' := (11, [some (.ref 16)], [(.int 2), (.ref 16)])) (h' := (107, I, J, mm_rf rv sp rr w nw)) 2 rfl ?_
    obtain ⟨g214, hg214⟩ : ∃ z, fX4_refuse 2 I = z := ⟨_, rfl⟩
    try rw [hg214] at e
    refine mm_T.call (t := 30) (as := [(.ref 16), (.int 2)]) (f' := (14, [some (.ref 16)], [])) rfl (tX4_refuse (d + 4) 2 I J rv sp rr w nw g214 hg214) (fun v h hq => ?_)
    obtain ⟨rfl, rfl⟩ := hq
    by_cases h1497 : g214.1 = 0 ∨ g214.1 = 1
    case neg => rw [if_neg h1497] at e; cases e
    rw [if_pos h1497] at e
    cases e
    first | exact mm_T.retZ (v := some (.int g214.1)) rfl h1497 ⟨rfl, rfl⟩ | exact mm_T.retZ (v := some (.int out)) rfl h1497 ⟨rfl, rfl⟩
  · rw [if_neg h1496] at e
    refine mm_T.seg (f' := (16, [some (.ref 16)], [(.ref 16)])) (h' := (107, I, J, mm_rf rv sp rr w nw)) 1 rfl ?_
    obtain ⟨o1498, eo1498, e⟩ := mm_bind e
    refine mm_T.call (t := 34) (as := [(.ref 16)]) (f' := (19, [some (.ref 16)], [])) rfl (tX4_advance (d + 0) n I J rv sp rr w nw o1498 eo1498) (fun v h hq => ?_)
    obtain ⟨rfl, rfl⟩ := hq
    refine mm_T.seg (f' := (20, [some (.ref 16)], [(.int 1)])) (h' := (107, o1498.1, o1498.2, mm_rf rv sp rr w nw)) 1 rfl ?_
    cases e
    exact mm_T.ret rfl ⟨rfl, rfl⟩
set_option maxRecDepth 100000 in
set_option maxHeartbeats 4000000 in
theorem tX4_isNumber (d : Nat) (x1 : Int32) (x2 : Int32) (I : Nat → Nat → Int32) (J : Nat → Nat → Int64) (rv sp rr w nw : Nat) (out : Int32 × (Nat → Nat → Int32)) (e : fX4_isNumber x1 x2 I = some out) : mm_T none (d + 1) 42 (mm_ent 42 [(.ref 16), (.int x1), (.int x2)]) (107, I, J, mm_rf rv sp rr w nw) (fun v h => v = some (.int out.1) ∧ h = (107, out.2, J, mm_rf rv sp rr w nw)) := by
  unfold fX4_isNumber at e
  refine mm_T.seg (f' := (5, [some (.ref 16), some (.int x1), some (.int x2)], [(.int 2), (.int (I 16 5))])) (h' := (107, I, J, mm_rf rv sp rr w nw)) 3 rfl ?_
  refine mm_T.br (c := (I 16 5) = 2) (a := ((14, [some (.ref 16), some (.int x1), some (.int x2)], []), (107, I, J, mm_rf rv sp rr w nw))) (b := ((8, [some (.ref 16), some (.int x1), some (.int x2)], []), (107, I, J, mm_rf rv sp rr w nw))) rfl (fun h1499 => ?_) (fun h1499 => ?_)
  · rw [if_pos h1499] at e
    refine mm_T.seg (f' := (19, [some (.ref 16), some (.int x1), some (.int x2)], [(.int x1), (.int (I 16 6))])) (h' := (107, I, J, mm_rf rv sp rr w nw)) 3 rfl ?_
    refine mm_T.br (c := (I 16 6) < x1) (a := ((30, [some (.ref 16), some (.int x1), some (.int x2)], []), (107, I, J, mm_rf rv sp rr w nw))) (b := ((22, [some (.ref 16), some (.int x1), some (.int x2)], []), (107, I, J, mm_rf rv sp rr w nw))) rfl (fun h1500 => ?_) (fun h1500 => ?_)
    · rw [if_pos h1500] at e
      refine mm_T.seg (f' := (32, [some (.ref 16), some (.int x1), some (.int x2)], [(.int 4), (.ref 16)])) (h' := (107, I, J, mm_rf rv sp rr w nw)) 2 rfl ?_
      obtain ⟨g215, hg215⟩ : ∃ z, fX4_refuse 4 I = z := ⟨_, rfl⟩
      try rw [hg215] at e
      refine mm_T.call (t := 30) (as := [(.ref 16), (.int 4)]) (f' := (35, [some (.ref 16), some (.int x1), some (.int x2)], [])) rfl (tX4_refuse (d + 0) 4 I J rv sp rr w nw g215 hg215) (fun v h hq => ?_)
      obtain ⟨rfl, rfl⟩ := hq
      refine mm_T.br (c := g215.1 = 0) (a := ((42, [some (.ref 16), some (.int x1), some (.int x2)], []), (107, g215.2, J, mm_rf rv sp rr w nw))) (b := ((38, [some (.ref 16), some (.int x1), some (.int x2)], []), (107, g215.2, J, mm_rf rv sp rr w nw))) rfl (fun h1501 => ?_) (fun h1501 => ?_)
      · rw [if_pos h1501] at e
        refine mm_T.seg (f' := (43, [some (.ref 16), some (.int x1), some (.int x2)], [(.int 0)])) (h' := (107, g215.2, J, mm_rf rv sp rr w nw)) 1 rfl ?_
        cases e
        exact mm_T.ret rfl ⟨rfl, rfl⟩
      · rw [if_neg h1501] at e
        refine mm_T.seg (f' := (43, [some (.ref 16), some (.int x1), some (.int x2)], [(.int 1)])) (h' := (107, g215.2, J, mm_rf rv sp rr w nw)) 2 rfl ?_
        cases e
        exact mm_T.ret rfl ⟨rfl, rfl⟩
    · rw [if_neg h1500] at e
      refine mm_T.seg (f' := (27, [some (.ref 16), some (.int x1), some (.int x2)], [(.int x2), (.int (I 16 6))])) (h' := (107, I, J, mm_rf rv sp rr w nw)) 3 rfl ?_
      refine mm_T.br (c := x2 < (I 16 6)) (a := ((30, [some (.ref 16), some (.int x1), some (.int x2)], []), (107, I, J, mm_rf rv sp rr w nw))) (b := ((38, [some (.ref 16), some (.int x1), some (.int x2)], []), (107, I, J, mm_rf rv sp rr w nw))) rfl (fun h1502 => ?_) (fun h1502 => ?_)
      · rw [if_pos h1502] at e
        refine mm_T.seg (f' := (32, [some (.ref 16), some (.int x1), some (.int x2)], [(.int 4), (.ref 16)])) (h' := (107, I, J, mm_rf rv sp rr w nw)) 2 rfl ?_
        obtain ⟨g216, hg216⟩ : ∃ z, fX4_refuse 4 I = z := ⟨_, rfl⟩
        try rw [hg216] at e
        refine mm_T.call (t := 30) (as := [(.ref 16), (.int 4)]) (f' := (35, [some (.ref 16), some (.int x1), some (.int x2)], [])) rfl (tX4_refuse (d + 0) 4 I J rv sp rr w nw g216 hg216) (fun v h hq => ?_)
        obtain ⟨rfl, rfl⟩ := hq
        refine mm_T.br (c := g216.1 = 0) (a := ((42, [some (.ref 16), some (.int x1), some (.int x2)], []), (107, g216.2, J, mm_rf rv sp rr w nw))) (b := ((38, [some (.ref 16), some (.int x1), some (.int x2)], []), (107, g216.2, J, mm_rf rv sp rr w nw))) rfl (fun h1503 => ?_) (fun h1503 => ?_)
        · rw [if_pos h1503] at e
          refine mm_T.seg (f' := (43, [some (.ref 16), some (.int x1), some (.int x2)], [(.int 0)])) (h' := (107, g216.2, J, mm_rf rv sp rr w nw)) 1 rfl ?_
          cases e
          exact mm_T.ret rfl ⟨rfl, rfl⟩
        · rw [if_neg h1503] at e
          refine mm_T.seg (f' := (43, [some (.ref 16), some (.int x1), some (.int x2)], [(.int 1)])) (h' := (107, g216.2, J, mm_rf rv sp rr w nw)) 2 rfl ?_
          cases e
          exact mm_T.ret rfl ⟨rfl, rfl⟩
      · rw [if_neg h1502] at e
        refine mm_T.seg (f' := (43, [some (.ref 16), some (.int x1), some (.int x2)], [(.int 1)])) (h' := (107, I, J, mm_rf rv sp rr w nw)) 2 rfl ?_
        cases e
        exact mm_T.ret rfl ⟨rfl, rfl⟩
  · rw [if_neg h1499] at e
    refine mm_T.seg (f' := (10, [some (.ref 16), some (.int x1), some (.int x2)], [(.int 2), (.ref 16)])) (h' := (107, I, J, mm_rf rv sp rr w nw)) 2 rfl ?_
    obtain ⟨g217, hg217⟩ : ∃ z, fX4_refuse 2 I = z := ⟨_, rfl⟩
    try rw [hg217] at e
    refine mm_T.call (t := 30) (as := [(.ref 16), (.int 2)]) (f' := (13, [some (.ref 16), some (.int x1), some (.int x2)], [])) rfl (tX4_refuse (d + 0) 2 I J rv sp rr w nw g217 hg217) (fun v h hq => ?_)
    obtain ⟨rfl, rfl⟩ := hq
    by_cases h1504 : g217.1 = 0 ∨ g217.1 = 1
    case neg => rw [if_neg h1504] at e; cases e
    rw [if_pos h1504] at e
    cases e
    first | exact mm_T.retZ (v := some (.int g217.1)) rfl h1504 ⟨rfl, rfl⟩ | exact mm_T.retZ (v := some (.int out)) rfl h1504 ⟨rfl, rfl⟩
set_option maxRecDepth 100000 in
set_option maxHeartbeats 4000000 in
theorem tX4_passNumber (d n : Nat) (x1 : Int32) (x2 : Int32) (I : Nat → Nat → Int32) (J : Nat → Nat → Int64) (rv sp rr w nw : Nat) (out : Int32 × (Nat → Nat → Int32) × (Nat → Nat → Int64)) (e : fX4_passNumber n x1 x2 I J = some out) : mm_T none (d + 5) 43 (mm_ent 43 [(.ref 16), (.int x1), (.int x2)]) (107, I, J, mm_rf rv sp rr w nw) (fun v h => v = some (.int out.1) ∧ h = (107, out.2.1, out.2.2, mm_rf rv sp rr w nw)) := by
  unfold fX4_passNumber at e
  refine mm_T.seg (f' := (3, [some (.ref 16), some (.int x1), some (.int x2), none], [(.int x2), (.int x1), (.ref 16)])) (h' := (107, I, J, mm_rf rv sp rr w nw)) 3 rfl ?_
  obtain ⟨o1505, eo1505, e⟩ := mm_bind e
  refine mm_T.call (t := 42) (as := [(.ref 16), (.int x1), (.int x2)]) (f' := (6, [some (.ref 16), some (.int x1), some (.int x2), none], [])) rfl (tX4_isNumber (d + 3) x1 x2 I J rv sp rr w nw o1505 eo1505) (fun v h hq => ?_)
  obtain ⟨rfl, rfl⟩ := hq
  refine mm_T.br (c := o1505.1 = 0) (a := ((9, [some (.ref 16), some (.int x1), some (.int x2), none], []), (107, o1505.2, J, mm_rf rv sp rr w nw))) (b := ((11, [some (.ref 16), some (.int x1), some (.int x2), none], []), (107, o1505.2, J, mm_rf rv sp rr w nw))) rfl (fun h1506 => ?_) (fun h1506 => ?_)
  · rw [if_pos h1506] at e
    refine mm_T.seg (f' := (10, [some (.ref 16), some (.int x1), some (.int x2), none], [(.int (-1))])) (h' := (107, o1505.2, J, mm_rf rv sp rr w nw)) 1 rfl ?_
    cases e
    exact mm_T.ret rfl ⟨rfl, rfl⟩
  · rw [if_neg h1506] at e
    refine mm_T.seg (f' := (17, [some (.ref 16), some (.int x1), some (.int x2), some (.int (o1505.2 16 6))], [(.ref 16)])) (h' := (107, o1505.2, J, mm_rf rv sp rr w nw)) 4 rfl ?_
    obtain ⟨o1507, eo1507, e⟩ := mm_bind e
    refine mm_T.call (t := 34) (as := [(.ref 16)]) (f' := (20, [some (.ref 16), some (.int x1), some (.int x2), some (.int (o1505.2 16 6))], [])) rfl (tX4_advance (d + 0) n o1505.2 J rv sp rr w nw o1507 eo1507) (fun v h hq => ?_)
    obtain ⟨rfl, rfl⟩ := hq
    refine mm_T.seg (f' := (21, [some (.ref 16), some (.int x1), some (.int x2), some (.int (o1505.2 16 6))], [(.int (o1505.2 16 6))])) (h' := (107, o1507.1, o1507.2, mm_rf rv sp rr w nw)) 1 rfl ?_
    cases e
    exact mm_T.ret rfl ⟨rfl, rfl⟩
set_option maxRecDepth 100000 in
set_option maxHeartbeats 4000000 in
theorem tX4_mayBegin (d : Nat) (x1 : Int32) (I : Nat → Nat → Int32) (J : Nat → Nat → Int64) (rv sp rr w nw : Nat) (hrr : rr = 3 ∨ rr = 19) (out : Int32) (e : fX4_mayBegin x1 I rr = out) : mm_T none (d + 0) 45 (mm_ent 45 [(.ref 16), (.int x1)]) (107, I, J, mm_rf rv sp rr w nw) (fun v h => v = some (.int out) ∧ h = (107, I, J, mm_rf rv sp rr w nw)) := by
  rcases hrr with rfl | rfl
  · unfold fX4_mayBegin at e
    refine mm_T.seg (f' := (1, [some (.ref 16), some (.int x1)], [(.int x1)])) (h' := (107, I, J, mm_rf rv sp 3 w nw)) 1 rfl ?_
    by_cases h1509 : x1 = 0
    · rw [if_pos h1509] at e
      refine mm_T.step (f' := (48, [some (.ref 16), some (.int x1)], [])) (h' := (107, I, J, mm_rf rv sp 3 w nw)) (by first | (rw [h1509]; rfl) | exact absurd h1509 (by decide)) ?_
      refine mm_T.seg (f' := (52, [some (.ref 16), some (.int x1)], [(.int (I 16 9))])) (h' := (107, I, J, mm_rf rv sp 3 w nw)) 2 rfl ?_
      refine mm_T.br (c := (I 16 9) = 0) (a := ((55, [some (.ref 16), some (.int x1)], []), (107, I, J, mm_rf rv sp 3 w nw))) (b := ((59, [some (.ref 16), some (.int x1)], []), (107, I, J, mm_rf rv sp 3 w nw))) rfl (fun h1510 => ?_) (fun h1510 => ?_)
      · rw [if_pos h1510] at e
        refine mm_T.seg (f' := (60, [some (.ref 16), some (.int x1)], [(.int 1)])) (h' := (107, I, J, mm_rf rv sp 3 w nw)) 2 rfl ?_
        cases e
        exact mm_T.ret rfl ⟨rfl, rfl⟩
      · rw [if_neg h1510] at e
        refine mm_T.seg (f' := (60, [some (.ref 16), some (.int x1)], [(.int 0)])) (h' := (107, I, J, mm_rf rv sp 3 w nw)) 1 rfl ?_
        cases e
        exact mm_T.ret rfl ⟨rfl, rfl⟩
    · rw [if_neg h1509] at e
      by_cases h1511 : x1 = 1
      · rw [if_pos h1511] at e
        refine mm_T.step (f' := (61, [some (.ref 16), some (.int x1)], [])) (h' := (107, I, J, mm_rf rv sp 3 w nw)) (by first | (rw [h1511]; rfl) | exact absurd h1511 (by decide)) ?_
        refine mm_T.seg (f' := (65, [some (.ref 16), some (.int x1)], [(.ref 3)])) (h' := (107, I, J, mm_rf rv sp 3 w nw)) 2 rfl ?_
        refine mm_T.seg (f' := (70, [some (.ref 16), some (.int x1)], [(.int 16), (.int (I 3 2))])) (h' := (107, I, J, mm_rf rv sp 3 w nw)) 2 rfl ?_
        refine mm_T.br (c := (I 3 2) < 16) (a := ((73, [some (.ref 16), some (.int x1)], []), (107, I, J, mm_rf rv sp 3 w nw))) (b := ((77, [some (.ref 16), some (.int x1)], []), (107, I, J, mm_rf rv sp 3 w nw))) rfl (fun h1512 => ?_) (fun h1512 => ?_)
        · rw [if_pos h1512] at e
          refine mm_T.seg (f' := (78, [some (.ref 16), some (.int x1)], [(.int 1)])) (h' := (107, I, J, mm_rf rv sp 3 w nw)) 2 rfl ?_
          cases e
          exact mm_T.ret rfl ⟨rfl, rfl⟩
        · rw [if_neg h1512] at e
          refine mm_T.seg (f' := (78, [some (.ref 16), some (.int x1)], [(.int 0)])) (h' := (107, I, J, mm_rf rv sp 3 w nw)) 1 rfl ?_
          cases e
          exact mm_T.ret rfl ⟨rfl, rfl⟩
      · rw [if_neg h1511] at e
        by_cases h1513 : x1 = 2
        · rw [if_pos h1513] at e
          refine mm_T.step (f' := (79, [some (.ref 16), some (.int x1)], [])) (h' := (107, I, J, mm_rf rv sp 3 w nw)) (by first | (rw [h1513]; rfl) | exact absurd h1513 (by decide)) ?_
          refine mm_T.seg (f' := (83, [some (.ref 16), some (.int x1)], [(.ref 3)])) (h' := (107, I, J, mm_rf rv sp 3 w nw)) 2 rfl ?_
          refine mm_T.seg (f' := (88, [some (.ref 16), some (.int x1)], [(.int 6), (.int (I 3 3))])) (h' := (107, I, J, mm_rf rv sp 3 w nw)) 2 rfl ?_
          refine mm_T.br (c := (I 3 3) < 6) (a := ((91, [some (.ref 16), some (.int x1)], []), (107, I, J, mm_rf rv sp 3 w nw))) (b := ((95, [some (.ref 16), some (.int x1)], []), (107, I, J, mm_rf rv sp 3 w nw))) rfl (fun h1514 => ?_) (fun h1514 => ?_)
          · rw [if_pos h1514] at e
            refine mm_T.seg (f' := (96, [some (.ref 16), some (.int x1)], [(.int 1)])) (h' := (107, I, J, mm_rf rv sp 3 w nw)) 2 rfl ?_
            cases e
            exact mm_T.ret rfl ⟨rfl, rfl⟩
          · rw [if_neg h1514] at e
            refine mm_T.seg (f' := (96, [some (.ref 16), some (.int x1)], [(.int 0)])) (h' := (107, I, J, mm_rf rv sp 3 w nw)) 1 rfl ?_
            cases e
            exact mm_T.ret rfl ⟨rfl, rfl⟩
        · rw [if_neg h1513] at e
          by_cases h1515 : x1 = 3
          · rw [if_pos h1515] at e
            refine mm_T.step (f' := (97, [some (.ref 16), some (.int x1)], [])) (h' := (107, I, J, mm_rf rv sp 3 w nw)) (by first | (rw [h1515]; rfl) | exact absurd h1515 (by decide)) ?_
            refine mm_T.seg (f' := (101, [some (.ref 16), some (.int x1)], [(.ref 3)])) (h' := (107, I, J, mm_rf rv sp 3 w nw)) 2 rfl ?_
            refine mm_T.seg (f' := (105, [some (.ref 16), some (.int x1)], [(.int 4), (.int (I 3 4))])) (h' := (107, I, J, mm_rf rv sp 3 w nw)) 2 rfl ?_
            refine mm_T.br (c := (I 3 4) < 4) (a := ((108, [some (.ref 16), some (.int x1)], []), (107, I, J, mm_rf rv sp 3 w nw))) (b := ((112, [some (.ref 16), some (.int x1)], []), (107, I, J, mm_rf rv sp 3 w nw))) rfl (fun h1516 => ?_) (fun h1516 => ?_)
            · rw [if_pos h1516] at e
              refine mm_T.seg (f' := (113, [some (.ref 16), some (.int x1)], [(.int 1)])) (h' := (107, I, J, mm_rf rv sp 3 w nw)) 2 rfl ?_
              cases e
              exact mm_T.ret rfl ⟨rfl, rfl⟩
            · rw [if_neg h1516] at e
              refine mm_T.seg (f' := (113, [some (.ref 16), some (.int x1)], [(.int 0)])) (h' := (107, I, J, mm_rf rv sp 3 w nw)) 1 rfl ?_
              cases e
              exact mm_T.ret rfl ⟨rfl, rfl⟩
          · rw [if_neg h1515] at e
            by_cases h1517 : x1 = 4
            · rw [if_pos h1517] at e
              refine mm_T.step (f' := (114, [some (.ref 16), some (.int x1)], [])) (h' := (107, I, J, mm_rf rv sp 3 w nw)) (by first | (rw [h1517]; rfl) | exact absurd h1517 (by decide)) ?_
              refine mm_T.seg (f' := (118, [some (.ref 16), some (.int x1)], [(.ref 3)])) (h' := (107, I, J, mm_rf rv sp 3 w nw)) 2 rfl ?_
              refine mm_T.seg (f' := (123, [some (.ref 16), some (.int x1)], [(.int 7), (.int (I 3 5))])) (h' := (107, I, J, mm_rf rv sp 3 w nw)) 2 rfl ?_
              refine mm_T.br (c := (I 3 5) < 7) (a := ((126, [some (.ref 16), some (.int x1)], []), (107, I, J, mm_rf rv sp 3 w nw))) (b := ((130, [some (.ref 16), some (.int x1)], []), (107, I, J, mm_rf rv sp 3 w nw))) rfl (fun h1518 => ?_) (fun h1518 => ?_)
              · rw [if_pos h1518] at e
                refine mm_T.seg (f' := (131, [some (.ref 16), some (.int x1)], [(.int 1)])) (h' := (107, I, J, mm_rf rv sp 3 w nw)) 2 rfl ?_
                cases e
                exact mm_T.ret rfl ⟨rfl, rfl⟩
              · rw [if_neg h1518] at e
                refine mm_T.seg (f' := (131, [some (.ref 16), some (.int x1)], [(.int 0)])) (h' := (107, I, J, mm_rf rv sp 3 w nw)) 1 rfl ?_
                cases e
                exact mm_T.ret rfl ⟨rfl, rfl⟩
            · rw [if_neg h1517] at e
              by_cases h1519 : x1 = 5
              · rw [if_pos h1519] at e
                refine mm_T.step (f' := (132, [some (.ref 16), some (.int x1)], [])) (h' := (107, I, J, mm_rf rv sp 3 w nw)) (by first | (rw [h1519]; rfl) | exact absurd h1519 (by decide)) ?_
                refine mm_T.seg (f' := (140, [some (.ref 16), some (.int x1)], [(.int (((I 16 9) >>> (x1 &&& 31)) &&& 1))])) (h' := (107, I, J, mm_rf rv sp 3 w nw)) 6 rfl ?_
                refine mm_T.br (c := (((I 16 9) >>> (x1 &&& 31)) &&& 1) = 0) (a := ((143, [some (.ref 16), some (.int x1)], []), (107, I, J, mm_rf rv sp 3 w nw))) (b := ((147, [some (.ref 16), some (.int x1)], []), (107, I, J, mm_rf rv sp 3 w nw))) rfl (fun h1520 => ?_) (fun h1520 => ?_)
                · rw [if_pos h1520] at e
                  refine mm_T.seg (f' := (148, [some (.ref 16), some (.int x1)], [(.int 1)])) (h' := (107, I, J, mm_rf rv sp 3 w nw)) 2 rfl ?_
                  cases e
                  exact mm_T.ret rfl ⟨rfl, rfl⟩
                · rw [if_neg h1520] at e
                  refine mm_T.seg (f' := (148, [some (.ref 16), some (.int x1)], [(.int 0)])) (h' := (107, I, J, mm_rf rv sp 3 w nw)) 1 rfl ?_
                  cases e
                  exact mm_T.ret rfl ⟨rfl, rfl⟩
              · rw [if_neg h1519] at e
                by_cases h1521 : x1 = 6
                · rw [if_pos h1521] at e
                  refine mm_T.step (f' := (132, [some (.ref 16), some (.int x1)], [])) (h' := (107, I, J, mm_rf rv sp 3 w nw)) (by first | (rw [h1521]; rfl) | exact absurd h1521 (by decide)) ?_
                  refine mm_T.seg (f' := (140, [some (.ref 16), some (.int x1)], [(.int (((I 16 9) >>> (x1 &&& 31)) &&& 1))])) (h' := (107, I, J, mm_rf rv sp 3 w nw)) 6 rfl ?_
                  refine mm_T.br (c := (((I 16 9) >>> (x1 &&& 31)) &&& 1) = 0) (a := ((143, [some (.ref 16), some (.int x1)], []), (107, I, J, mm_rf rv sp 3 w nw))) (b := ((147, [some (.ref 16), some (.int x1)], []), (107, I, J, mm_rf rv sp 3 w nw))) rfl (fun h1522 => ?_) (fun h1522 => ?_)
                  · rw [if_pos h1522] at e
                    refine mm_T.seg (f' := (148, [some (.ref 16), some (.int x1)], [(.int 1)])) (h' := (107, I, J, mm_rf rv sp 3 w nw)) 2 rfl ?_
                    cases e
                    exact mm_T.ret rfl ⟨rfl, rfl⟩
                  · rw [if_neg h1522] at e
                    refine mm_T.seg (f' := (148, [some (.ref 16), some (.int x1)], [(.int 0)])) (h' := (107, I, J, mm_rf rv sp 3 w nw)) 1 rfl ?_
                    cases e
                    exact mm_T.ret rfl ⟨rfl, rfl⟩
                · rw [if_neg h1521] at e
                  by_cases h1523 : x1 = 7
                  · rw [if_pos h1523] at e
                    refine mm_T.step (f' := (132, [some (.ref 16), some (.int x1)], [])) (h' := (107, I, J, mm_rf rv sp 3 w nw)) (by first | (rw [h1523]; rfl) | exact absurd h1523 (by decide)) ?_
                    refine mm_T.seg (f' := (140, [some (.ref 16), some (.int x1)], [(.int (((I 16 9) >>> (x1 &&& 31)) &&& 1))])) (h' := (107, I, J, mm_rf rv sp 3 w nw)) 6 rfl ?_
                    refine mm_T.br (c := (((I 16 9) >>> (x1 &&& 31)) &&& 1) = 0) (a := ((143, [some (.ref 16), some (.int x1)], []), (107, I, J, mm_rf rv sp 3 w nw))) (b := ((147, [some (.ref 16), some (.int x1)], []), (107, I, J, mm_rf rv sp 3 w nw))) rfl (fun h1524 => ?_) (fun h1524 => ?_)
                    · rw [if_pos h1524] at e
                      refine mm_T.seg (f' := (148, [some (.ref 16), some (.int x1)], [(.int 1)])) (h' := (107, I, J, mm_rf rv sp 3 w nw)) 2 rfl ?_
                      cases e
                      exact mm_T.ret rfl ⟨rfl, rfl⟩
                    · rw [if_neg h1524] at e
                      refine mm_T.seg (f' := (148, [some (.ref 16), some (.int x1)], [(.int 0)])) (h' := (107, I, J, mm_rf rv sp 3 w nw)) 1 rfl ?_
                      cases e
                      exact mm_T.ret rfl ⟨rfl, rfl⟩
                  · rw [if_neg h1523] at e
                    refine mm_T.tabs (lo := 0) (hi := 7) (y := ((149, [some (.ref 16), some (.int x1)], []), (107, I, J, mm_rf rv sp 3 w nw))) rfl (mm_swo (0) (7) x1 [0, 1, 2, 3, 4, 5, 6, 7] (by decide) (by intro z hz; simp only [List.mem_cons, List.not_mem_nil, or_false] at hz; rcases hz with rfl | rfl | rfl | rfl | rfl | rfl | rfl | rfl <;> first | assumption | decide)) ?_
                    refine mm_T.seg (f' := (150, [some (.ref 16), some (.int x1)], [(.int 0)])) (h' := (107, I, J, mm_rf rv sp 3 w nw)) 1 rfl ?_
                    cases e
                    exact mm_T.ret rfl ⟨rfl, rfl⟩
  · unfold fX4_mayBegin at e
    refine mm_T.seg (f' := (1, [some (.ref 16), some (.int x1)], [(.int x1)])) (h' := (107, I, J, mm_rf rv sp 19 w nw)) 1 rfl ?_
    by_cases h1509 : x1 = 0
    · rw [if_pos h1509] at e
      refine mm_T.step (f' := (48, [some (.ref 16), some (.int x1)], [])) (h' := (107, I, J, mm_rf rv sp 19 w nw)) (by first | (rw [h1509]; rfl) | exact absurd h1509 (by decide)) ?_
      refine mm_T.seg (f' := (52, [some (.ref 16), some (.int x1)], [(.int (I 16 9))])) (h' := (107, I, J, mm_rf rv sp 19 w nw)) 2 rfl ?_
      refine mm_T.br (c := (I 16 9) = 0) (a := ((55, [some (.ref 16), some (.int x1)], []), (107, I, J, mm_rf rv sp 19 w nw))) (b := ((59, [some (.ref 16), some (.int x1)], []), (107, I, J, mm_rf rv sp 19 w nw))) rfl (fun h1510 => ?_) (fun h1510 => ?_)
      · rw [if_pos h1510] at e
        refine mm_T.seg (f' := (60, [some (.ref 16), some (.int x1)], [(.int 1)])) (h' := (107, I, J, mm_rf rv sp 19 w nw)) 2 rfl ?_
        cases e
        exact mm_T.ret rfl ⟨rfl, rfl⟩
      · rw [if_neg h1510] at e
        refine mm_T.seg (f' := (60, [some (.ref 16), some (.int x1)], [(.int 0)])) (h' := (107, I, J, mm_rf rv sp 19 w nw)) 1 rfl ?_
        cases e
        exact mm_T.ret rfl ⟨rfl, rfl⟩
    · rw [if_neg h1509] at e
      by_cases h1511 : x1 = 1
      · rw [if_pos h1511] at e
        refine mm_T.step (f' := (61, [some (.ref 16), some (.int x1)], [])) (h' := (107, I, J, mm_rf rv sp 19 w nw)) (by first | (rw [h1511]; rfl) | exact absurd h1511 (by decide)) ?_
        refine mm_T.seg (f' := (65, [some (.ref 16), some (.int x1)], [(.ref 19)])) (h' := (107, I, J, mm_rf rv sp 19 w nw)) 2 rfl ?_
        refine mm_T.seg (f' := (70, [some (.ref 16), some (.int x1)], [(.int 16), (.int (I 19 2))])) (h' := (107, I, J, mm_rf rv sp 19 w nw)) 2 rfl ?_
        refine mm_T.br (c := (I 19 2) < 16) (a := ((73, [some (.ref 16), some (.int x1)], []), (107, I, J, mm_rf rv sp 19 w nw))) (b := ((77, [some (.ref 16), some (.int x1)], []), (107, I, J, mm_rf rv sp 19 w nw))) rfl (fun h1512 => ?_) (fun h1512 => ?_)
        · rw [if_pos h1512] at e
          refine mm_T.seg (f' := (78, [some (.ref 16), some (.int x1)], [(.int 1)])) (h' := (107, I, J, mm_rf rv sp 19 w nw)) 2 rfl ?_
          cases e
          exact mm_T.ret rfl ⟨rfl, rfl⟩
        · rw [if_neg h1512] at e
          refine mm_T.seg (f' := (78, [some (.ref 16), some (.int x1)], [(.int 0)])) (h' := (107, I, J, mm_rf rv sp 19 w nw)) 1 rfl ?_
          cases e
          exact mm_T.ret rfl ⟨rfl, rfl⟩
      · rw [if_neg h1511] at e
        by_cases h1513 : x1 = 2
        · rw [if_pos h1513] at e
          refine mm_T.step (f' := (79, [some (.ref 16), some (.int x1)], [])) (h' := (107, I, J, mm_rf rv sp 19 w nw)) (by first | (rw [h1513]; rfl) | exact absurd h1513 (by decide)) ?_
          refine mm_T.seg (f' := (83, [some (.ref 16), some (.int x1)], [(.ref 19)])) (h' := (107, I, J, mm_rf rv sp 19 w nw)) 2 rfl ?_
          refine mm_T.seg (f' := (88, [some (.ref 16), some (.int x1)], [(.int 6), (.int (I 19 3))])) (h' := (107, I, J, mm_rf rv sp 19 w nw)) 2 rfl ?_
          refine mm_T.br (c := (I 19 3) < 6) (a := ((91, [some (.ref 16), some (.int x1)], []), (107, I, J, mm_rf rv sp 19 w nw))) (b := ((95, [some (.ref 16), some (.int x1)], []), (107, I, J, mm_rf rv sp 19 w nw))) rfl (fun h1514 => ?_) (fun h1514 => ?_)
          · rw [if_pos h1514] at e
            refine mm_T.seg (f' := (96, [some (.ref 16), some (.int x1)], [(.int 1)])) (h' := (107, I, J, mm_rf rv sp 19 w nw)) 2 rfl ?_
            cases e
            exact mm_T.ret rfl ⟨rfl, rfl⟩
          · rw [if_neg h1514] at e
            refine mm_T.seg (f' := (96, [some (.ref 16), some (.int x1)], [(.int 0)])) (h' := (107, I, J, mm_rf rv sp 19 w nw)) 1 rfl ?_
            cases e
            exact mm_T.ret rfl ⟨rfl, rfl⟩
        · rw [if_neg h1513] at e
          by_cases h1515 : x1 = 3
          · rw [if_pos h1515] at e
            refine mm_T.step (f' := (97, [some (.ref 16), some (.int x1)], [])) (h' := (107, I, J, mm_rf rv sp 19 w nw)) (by first | (rw [h1515]; rfl) | exact absurd h1515 (by decide)) ?_
            refine mm_T.seg (f' := (101, [some (.ref 16), some (.int x1)], [(.ref 19)])) (h' := (107, I, J, mm_rf rv sp 19 w nw)) 2 rfl ?_
            refine mm_T.seg (f' := (105, [some (.ref 16), some (.int x1)], [(.int 4), (.int (I 19 4))])) (h' := (107, I, J, mm_rf rv sp 19 w nw)) 2 rfl ?_
            refine mm_T.br (c := (I 19 4) < 4) (a := ((108, [some (.ref 16), some (.int x1)], []), (107, I, J, mm_rf rv sp 19 w nw))) (b := ((112, [some (.ref 16), some (.int x1)], []), (107, I, J, mm_rf rv sp 19 w nw))) rfl (fun h1516 => ?_) (fun h1516 => ?_)
            · rw [if_pos h1516] at e
              refine mm_T.seg (f' := (113, [some (.ref 16), some (.int x1)], [(.int 1)])) (h' := (107, I, J, mm_rf rv sp 19 w nw)) 2 rfl ?_
              cases e
              exact mm_T.ret rfl ⟨rfl, rfl⟩
            · rw [if_neg h1516] at e
              refine mm_T.seg (f' := (113, [some (.ref 16), some (.int x1)], [(.int 0)])) (h' := (107, I, J, mm_rf rv sp 19 w nw)) 1 rfl ?_
              cases e
              exact mm_T.ret rfl ⟨rfl, rfl⟩
          · rw [if_neg h1515] at e
            by_cases h1517 : x1 = 4
            · rw [if_pos h1517] at e
              refine mm_T.step (f' := (114, [some (.ref 16), some (.int x1)], [])) (h' := (107, I, J, mm_rf rv sp 19 w nw)) (by first | (rw [h1517]; rfl) | exact absurd h1517 (by decide)) ?_
              refine mm_T.seg (f' := (118, [some (.ref 16), some (.int x1)], [(.ref 19)])) (h' := (107, I, J, mm_rf rv sp 19 w nw)) 2 rfl ?_
              refine mm_T.seg (f' := (123, [some (.ref 16), some (.int x1)], [(.int 7), (.int (I 19 5))])) (h' := (107, I, J, mm_rf rv sp 19 w nw)) 2 rfl ?_
              refine mm_T.br (c := (I 19 5) < 7) (a := ((126, [some (.ref 16), some (.int x1)], []), (107, I, J, mm_rf rv sp 19 w nw))) (b := ((130, [some (.ref 16), some (.int x1)], []), (107, I, J, mm_rf rv sp 19 w nw))) rfl (fun h1518 => ?_) (fun h1518 => ?_)
              · rw [if_pos h1518] at e
                refine mm_T.seg (f' := (131, [some (.ref 16), some (.int x1)], [(.int 1)])) (h' := (107, I, J, mm_rf rv sp 19 w nw)) 2 rfl ?_
                cases e
                exact mm_T.ret rfl ⟨rfl, rfl⟩
              · rw [if_neg h1518] at e
                refine mm_T.seg (f' := (131, [some (.ref 16), some (.int x1)], [(.int 0)])) (h' := (107, I, J, mm_rf rv sp 19 w nw)) 1 rfl ?_
                cases e
                exact mm_T.ret rfl ⟨rfl, rfl⟩
            · rw [if_neg h1517] at e
              by_cases h1519 : x1 = 5
              · rw [if_pos h1519] at e
                refine mm_T.step (f' := (132, [some (.ref 16), some (.int x1)], [])) (h' := (107, I, J, mm_rf rv sp 19 w nw)) (by first | (rw [h1519]; rfl) | exact absurd h1519 (by decide)) ?_
                refine mm_T.seg (f' := (140, [some (.ref 16), some (.int x1)], [(.int (((I 16 9) >>> (x1 &&& 31)) &&& 1))])) (h' := (107, I, J, mm_rf rv sp 19 w nw)) 6 rfl ?_
                refine mm_T.br (c := (((I 16 9) >>> (x1 &&& 31)) &&& 1) = 0) (a := ((143, [some (.ref 16), some (.int x1)], []), (107, I, J, mm_rf rv sp 19 w nw))) (b := ((147, [some (.ref 16), some (.int x1)], []), (107, I, J, mm_rf rv sp 19 w nw))) rfl (fun h1520 => ?_) (fun h1520 => ?_)
                · rw [if_pos h1520] at e
                  refine mm_T.seg (f' := (148, [some (.ref 16), some (.int x1)], [(.int 1)])) (h' := (107, I, J, mm_rf rv sp 19 w nw)) 2 rfl ?_
                  cases e
                  exact mm_T.ret rfl ⟨rfl, rfl⟩
                · rw [if_neg h1520] at e
                  refine mm_T.seg (f' := (148, [some (.ref 16), some (.int x1)], [(.int 0)])) (h' := (107, I, J, mm_rf rv sp 19 w nw)) 1 rfl ?_
                  cases e
                  exact mm_T.ret rfl ⟨rfl, rfl⟩
              · rw [if_neg h1519] at e
                by_cases h1521 : x1 = 6
                · rw [if_pos h1521] at e
                  refine mm_T.step (f' := (132, [some (.ref 16), some (.int x1)], [])) (h' := (107, I, J, mm_rf rv sp 19 w nw)) (by first | (rw [h1521]; rfl) | exact absurd h1521 (by decide)) ?_
                  refine mm_T.seg (f' := (140, [some (.ref 16), some (.int x1)], [(.int (((I 16 9) >>> (x1 &&& 31)) &&& 1))])) (h' := (107, I, J, mm_rf rv sp 19 w nw)) 6 rfl ?_
                  refine mm_T.br (c := (((I 16 9) >>> (x1 &&& 31)) &&& 1) = 0) (a := ((143, [some (.ref 16), some (.int x1)], []), (107, I, J, mm_rf rv sp 19 w nw))) (b := ((147, [some (.ref 16), some (.int x1)], []), (107, I, J, mm_rf rv sp 19 w nw))) rfl (fun h1522 => ?_) (fun h1522 => ?_)
                  · rw [if_pos h1522] at e
                    refine mm_T.seg (f' := (148, [some (.ref 16), some (.int x1)], [(.int 1)])) (h' := (107, I, J, mm_rf rv sp 19 w nw)) 2 rfl ?_
                    cases e
                    exact mm_T.ret rfl ⟨rfl, rfl⟩
                  · rw [if_neg h1522] at e
                    refine mm_T.seg (f' := (148, [some (.ref 16), some (.int x1)], [(.int 0)])) (h' := (107, I, J, mm_rf rv sp 19 w nw)) 1 rfl ?_
                    cases e
                    exact mm_T.ret rfl ⟨rfl, rfl⟩
                · rw [if_neg h1521] at e
                  by_cases h1523 : x1 = 7
                  · rw [if_pos h1523] at e
                    refine mm_T.step (f' := (132, [some (.ref 16), some (.int x1)], [])) (h' := (107, I, J, mm_rf rv sp 19 w nw)) (by first | (rw [h1523]; rfl) | exact absurd h1523 (by decide)) ?_
                    refine mm_T.seg (f' := (140, [some (.ref 16), some (.int x1)], [(.int (((I 16 9) >>> (x1 &&& 31)) &&& 1))])) (h' := (107, I, J, mm_rf rv sp 19 w nw)) 6 rfl ?_
                    refine mm_T.br (c := (((I 16 9) >>> (x1 &&& 31)) &&& 1) = 0) (a := ((143, [some (.ref 16), some (.int x1)], []), (107, I, J, mm_rf rv sp 19 w nw))) (b := ((147, [some (.ref 16), some (.int x1)], []), (107, I, J, mm_rf rv sp 19 w nw))) rfl (fun h1524 => ?_) (fun h1524 => ?_)
                    · rw [if_pos h1524] at e
                      refine mm_T.seg (f' := (148, [some (.ref 16), some (.int x1)], [(.int 1)])) (h' := (107, I, J, mm_rf rv sp 19 w nw)) 2 rfl ?_
                      cases e
                      exact mm_T.ret rfl ⟨rfl, rfl⟩
                    · rw [if_neg h1524] at e
                      refine mm_T.seg (f' := (148, [some (.ref 16), some (.int x1)], [(.int 0)])) (h' := (107, I, J, mm_rf rv sp 19 w nw)) 1 rfl ?_
                      cases e
                      exact mm_T.ret rfl ⟨rfl, rfl⟩
                  · rw [if_neg h1523] at e
                    refine mm_T.tabs (lo := 0) (hi := 7) (y := ((149, [some (.ref 16), some (.int x1)], []), (107, I, J, mm_rf rv sp 19 w nw))) rfl (mm_swo (0) (7) x1 [0, 1, 2, 3, 4, 5, 6, 7] (by decide) (by intro z hz; simp only [List.mem_cons, List.not_mem_nil, or_false] at hz; rcases hz with rfl | rfl | rfl | rfl | rfl | rfl | rfl | rfl <;> first | assumption | decide)) ?_
                    refine mm_T.seg (f' := (150, [some (.ref 16), some (.int x1)], [(.int 0)])) (h' := (107, I, J, mm_rf rv sp 19 w nw)) 1 rfl ?_
                    cases e
                    exact mm_T.ret rfl ⟨rfl, rfl⟩
set_option maxRecDepth 100000 in
set_option maxHeartbeats 4000000 in
theorem tX4_readWater (d n : Nat) (I : Nat → Nat → Int32) (J : Nat → Nat → Int64) (rv sp rr w nw : Nat) (hrr : rr = 3 ∨ rr = 19) (out : Int32 × (Nat → Nat → Int32) × (Nat → Nat → Int64)) (e : fX4_readWater n I J rr = some out) : mm_T none (d + 6) 46 (mm_ent 46 [(.ref 16)]) (107, I, J, mm_rf rv sp rr w nw) (fun v h => v = some (.int out.1) ∧ h = (107, out.2.1, out.2.2, mm_rf rv sp rr w nw)) := by
  rcases hrr with rfl | rfl
  · unfold fX4_readWater at e
    refine mm_T.seg (f' := (4, [some (.ref 16), none, none], [(.int 8), (.int 1), (.ref 16)])) (h' := (107, I, J, mm_rf rv sp 3 w nw)) 3 rfl ?_
    obtain ⟨o1529, eo1529, e⟩ := mm_bind e
    refine mm_T.call (t := 43) (as := [(.ref 16), (.int 1), (.int 8)]) (f' := (7, [some (.ref 16), none, none], [])) rfl (tX4_passNumber (d + 0) n 1 8 I J rv sp 3 w nw o1529 eo1529) (fun v h hq => ?_)
    obtain ⟨rfl, rfl⟩ := hq
    refine mm_T.seg (f' := (10, [some (.ref 16), some (.int o1529.1), none], [(.int (-1)), (.int o1529.1)])) (h' := (107, o1529.2.1, o1529.2.2, mm_rf rv sp 3 w nw)) 3 rfl ?_
    refine mm_T.br (c := o1529.1 = (-1)) (a := ((22, [some (.ref 16), some (.int o1529.1), none], []), (107, o1529.2.1, o1529.2.2, mm_rf rv sp 3 w nw))) (b := ((13, [some (.ref 16), some (.int o1529.1), none], []), (107, o1529.2.1, o1529.2.2, mm_rf rv sp 3 w nw))) rfl (fun h1530 => ?_) (fun h1530 => ?_)
    · rw [if_pos h1530] at e
      refine mm_T.seg (f' := (23, [some (.ref 16), some (.int o1529.1), none], [(.int 0)])) (h' := (107, o1529.2.1, o1529.2.2, mm_rf rv sp 3 w nw)) 1 rfl ?_
      cases e
      exact mm_T.ret rfl ⟨rfl, rfl⟩
    · rw [if_neg h1530] at e
      refine mm_T.seg (f' := (16, [some (.ref 16), some (.int o1529.1), none], [(.int 8), (.ref 16)])) (h' := (107, o1529.2.1, o1529.2.2, mm_rf rv sp 3 w nw)) 2 rfl ?_
      obtain ⟨o1531, eo1531, e⟩ := mm_bind e
      refine mm_T.call (t := 40) (as := [(.ref 16), (.int 8)]) (f' := (19, [some (.ref 16), some (.int o1529.1), none], [])) rfl (tX4_passWord (d + 0) n 8 o1529.2.1 o1529.2.2 rv sp 3 w nw o1531 eo1531) (fun v h hq => ?_)
      obtain ⟨rfl, rfl⟩ := hq
      refine mm_T.br (c := o1531.1 = 0) (a := ((22, [some (.ref 16), some (.int o1529.1), none], []), (107, o1531.2.1, o1531.2.2, mm_rf rv sp 3 w nw))) (b := ((24, [some (.ref 16), some (.int o1529.1), none], []), (107, o1531.2.1, o1531.2.2, mm_rf rv sp 3 w nw))) rfl (fun h1532 => ?_) (fun h1532 => ?_)
      · rw [if_pos h1532] at e
        refine mm_T.seg (f' := (23, [some (.ref 16), some (.int o1529.1), none], [(.int 0)])) (h' := (107, o1531.2.1, o1531.2.2, mm_rf rv sp 3 w nw)) 1 rfl ?_
        cases e
        exact mm_T.ret rfl ⟨rfl, rfl⟩
      · rw [if_neg h1532] at e
        refine mm_T.seg (f' := (28, [some (.ref 16), some (.int o1529.1), none], [(.int 6), (.int 1), (.ref 16)])) (h' := (107, o1531.2.1, o1531.2.2, mm_rf rv sp 3 w nw)) 3 rfl ?_
        obtain ⟨o1533, eo1533, e⟩ := mm_bind e
        refine mm_T.call (t := 43) (as := [(.ref 16), (.int 1), (.int 6)]) (f' := (31, [some (.ref 16), some (.int o1529.1), none], [])) rfl (tX4_passNumber (d + 0) n 1 6 o1531.2.1 o1531.2.2 rv sp 3 w nw o1533 eo1533) (fun v h hq => ?_)
        obtain ⟨rfl, rfl⟩ := hq
        refine mm_T.seg (f' := (34, [some (.ref 16), some (.int o1529.1), some (.int o1533.1)], [(.int (-1)), (.int o1533.1)])) (h' := (107, o1533.2.1, o1533.2.2, mm_rf rv sp 3 w nw)) 3 rfl ?_
        refine mm_T.br (c := o1533.1 = (-1)) (a := ((37, [some (.ref 16), some (.int o1529.1), some (.int o1533.1)], []), (107, o1533.2.1, o1533.2.2, mm_rf rv sp 3 w nw))) (b := ((39, [some (.ref 16), some (.int o1529.1), some (.int o1533.1)], []), (107, o1533.2.1, o1533.2.2, mm_rf rv sp 3 w nw))) rfl (fun h1534 => ?_) (fun h1534 => ?_)
        · rw [if_pos h1534] at e
          refine mm_T.seg (f' := (38, [some (.ref 16), some (.int o1529.1), some (.int o1533.1)], [(.int 0)])) (h' := (107, o1533.2.1, o1533.2.2, mm_rf rv sp 3 w nw)) 1 rfl ?_
          cases e
          exact mm_T.ret rfl ⟨rfl, rfl⟩
        · rw [if_neg h1534] at e
          refine mm_T.seg (f' := (43, [some (.ref 16), some (.int o1529.1), some (.int o1533.1)], [(.ref 3)])) (h' := (107, o1533.2.1, o1533.2.2, mm_rf rv sp 3 w nw)) 2 rfl ?_
          refine mm_T.seg (f' := (51, [some (.ref 16), some (.int o1529.1), some (.int o1533.1)], [(.ref 3)])) (h' := (107, (mm_up o1533.2.1 3 0 o1529.1), o1533.2.2, mm_rf rv sp 3 w nw)) 4 rfl ?_
          refine mm_T.seg (f' := (56, [some (.ref 16), some (.int o1529.1), some (.int o1533.1)], [(.ref 16)])) (h' := (107, (mm_up (mm_up o1533.2.1 3 0 o1529.1) 3 1 o1533.1), o1533.2.2, mm_rf rv sp 3 w nw)) 3 rfl ?_
          obtain ⟨o1535, eo1535, e⟩ := mm_bind e
          refine mm_T.call (t := 41) (as := [(.ref 16)]) (f' := (59, [some (.ref 16), some (.int o1529.1), some (.int o1533.1)], [])) rfl (tX4_passEndOfLine (d + 0) n (mm_up (mm_up o1533.2.1 3 0 o1529.1) 3 1 o1533.1) o1533.2.2 rv sp 3 w nw o1535 eo1535) (fun v h hq => ?_)
          obtain ⟨rfl, rfl⟩ := hq
          by_cases h1536 : o1535.1 = 0 ∨ o1535.1 = 1
          case neg => rw [if_neg h1536] at e; cases e
          rw [if_pos h1536] at e
          cases e
          first | exact mm_T.retZ (v := some (.int o1535.1)) rfl h1536 ⟨rfl, rfl⟩ | exact mm_T.retZ (v := some (.int out)) rfl h1536 ⟨rfl, rfl⟩
  · unfold fX4_readWater at e
    refine mm_T.seg (f' := (4, [some (.ref 16), none, none], [(.int 8), (.int 1), (.ref 16)])) (h' := (107, I, J, mm_rf rv sp 19 w nw)) 3 rfl ?_
    obtain ⟨o1529, eo1529, e⟩ := mm_bind e
    refine mm_T.call (t := 43) (as := [(.ref 16), (.int 1), (.int 8)]) (f' := (7, [some (.ref 16), none, none], [])) rfl (tX4_passNumber (d + 0) n 1 8 I J rv sp 19 w nw o1529 eo1529) (fun v h hq => ?_)
    obtain ⟨rfl, rfl⟩ := hq
    refine mm_T.seg (f' := (10, [some (.ref 16), some (.int o1529.1), none], [(.int (-1)), (.int o1529.1)])) (h' := (107, o1529.2.1, o1529.2.2, mm_rf rv sp 19 w nw)) 3 rfl ?_
    refine mm_T.br (c := o1529.1 = (-1)) (a := ((22, [some (.ref 16), some (.int o1529.1), none], []), (107, o1529.2.1, o1529.2.2, mm_rf rv sp 19 w nw))) (b := ((13, [some (.ref 16), some (.int o1529.1), none], []), (107, o1529.2.1, o1529.2.2, mm_rf rv sp 19 w nw))) rfl (fun h1530 => ?_) (fun h1530 => ?_)
    · rw [if_pos h1530] at e
      refine mm_T.seg (f' := (23, [some (.ref 16), some (.int o1529.1), none], [(.int 0)])) (h' := (107, o1529.2.1, o1529.2.2, mm_rf rv sp 19 w nw)) 1 rfl ?_
      cases e
      exact mm_T.ret rfl ⟨rfl, rfl⟩
    · rw [if_neg h1530] at e
      refine mm_T.seg (f' := (16, [some (.ref 16), some (.int o1529.1), none], [(.int 8), (.ref 16)])) (h' := (107, o1529.2.1, o1529.2.2, mm_rf rv sp 19 w nw)) 2 rfl ?_
      obtain ⟨o1531, eo1531, e⟩ := mm_bind e
      refine mm_T.call (t := 40) (as := [(.ref 16), (.int 8)]) (f' := (19, [some (.ref 16), some (.int o1529.1), none], [])) rfl (tX4_passWord (d + 0) n 8 o1529.2.1 o1529.2.2 rv sp 19 w nw o1531 eo1531) (fun v h hq => ?_)
      obtain ⟨rfl, rfl⟩ := hq
      refine mm_T.br (c := o1531.1 = 0) (a := ((22, [some (.ref 16), some (.int o1529.1), none], []), (107, o1531.2.1, o1531.2.2, mm_rf rv sp 19 w nw))) (b := ((24, [some (.ref 16), some (.int o1529.1), none], []), (107, o1531.2.1, o1531.2.2, mm_rf rv sp 19 w nw))) rfl (fun h1532 => ?_) (fun h1532 => ?_)
      · rw [if_pos h1532] at e
        refine mm_T.seg (f' := (23, [some (.ref 16), some (.int o1529.1), none], [(.int 0)])) (h' := (107, o1531.2.1, o1531.2.2, mm_rf rv sp 19 w nw)) 1 rfl ?_
        cases e
        exact mm_T.ret rfl ⟨rfl, rfl⟩
      · rw [if_neg h1532] at e
        refine mm_T.seg (f' := (28, [some (.ref 16), some (.int o1529.1), none], [(.int 6), (.int 1), (.ref 16)])) (h' := (107, o1531.2.1, o1531.2.2, mm_rf rv sp 19 w nw)) 3 rfl ?_
        obtain ⟨o1533, eo1533, e⟩ := mm_bind e
        refine mm_T.call (t := 43) (as := [(.ref 16), (.int 1), (.int 6)]) (f' := (31, [some (.ref 16), some (.int o1529.1), none], [])) rfl (tX4_passNumber (d + 0) n 1 6 o1531.2.1 o1531.2.2 rv sp 19 w nw o1533 eo1533) (fun v h hq => ?_)
        obtain ⟨rfl, rfl⟩ := hq
        refine mm_T.seg (f' := (34, [some (.ref 16), some (.int o1529.1), some (.int o1533.1)], [(.int (-1)), (.int o1533.1)])) (h' := (107, o1533.2.1, o1533.2.2, mm_rf rv sp 19 w nw)) 3 rfl ?_
        refine mm_T.br (c := o1533.1 = (-1)) (a := ((37, [some (.ref 16), some (.int o1529.1), some (.int o1533.1)], []), (107, o1533.2.1, o1533.2.2, mm_rf rv sp 19 w nw))) (b := ((39, [some (.ref 16), some (.int o1529.1), some (.int o1533.1)], []), (107, o1533.2.1, o1533.2.2, mm_rf rv sp 19 w nw))) rfl (fun h1534 => ?_) (fun h1534 => ?_)
        · rw [if_pos h1534] at e
          refine mm_T.seg (f' := (38, [some (.ref 16), some (.int o1529.1), some (.int o1533.1)], [(.int 0)])) (h' := (107, o1533.2.1, o1533.2.2, mm_rf rv sp 19 w nw)) 1 rfl ?_
          cases e
          exact mm_T.ret rfl ⟨rfl, rfl⟩
        · rw [if_neg h1534] at e
          refine mm_T.seg (f' := (43, [some (.ref 16), some (.int o1529.1), some (.int o1533.1)], [(.ref 19)])) (h' := (107, o1533.2.1, o1533.2.2, mm_rf rv sp 19 w nw)) 2 rfl ?_
          refine mm_T.seg (f' := (51, [some (.ref 16), some (.int o1529.1), some (.int o1533.1)], [(.ref 19)])) (h' := (107, (mm_up o1533.2.1 19 0 o1529.1), o1533.2.2, mm_rf rv sp 19 w nw)) 4 rfl ?_
          refine mm_T.seg (f' := (56, [some (.ref 16), some (.int o1529.1), some (.int o1533.1)], [(.ref 16)])) (h' := (107, (mm_up (mm_up o1533.2.1 19 0 o1529.1) 19 1 o1533.1), o1533.2.2, mm_rf rv sp 19 w nw)) 3 rfl ?_
          obtain ⟨o1535, eo1535, e⟩ := mm_bind e
          refine mm_T.call (t := 41) (as := [(.ref 16)]) (f' := (59, [some (.ref 16), some (.int o1529.1), some (.int o1533.1)], [])) rfl (tX4_passEndOfLine (d + 0) n (mm_up (mm_up o1533.2.1 19 0 o1529.1) 19 1 o1533.1) o1533.2.2 rv sp 19 w nw o1535 eo1535) (fun v h hq => ?_)
          obtain ⟨rfl, rfl⟩ := hq
          by_cases h1536 : o1535.1 = 0 ∨ o1535.1 = 1
          case neg => rw [if_neg h1536] at e; cases e
          rw [if_pos h1536] at e
          cases e
          first | exact mm_T.retZ (v := some (.int o1535.1)) rfl h1536 ⟨rfl, rfl⟩ | exact mm_T.retZ (v := some (.int out)) rfl h1536 ⟨rfl, rfl⟩
