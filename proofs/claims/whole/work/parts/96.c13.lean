set_option maxRecDepth 100000 in
set_option maxHeartbeats 4000000 in
theorem tX11_take (d n : Nat) (x1 : Int32) (I : Nat → Nat → Int32) (J : Nat → Nat → Int64) (rv sp rr w nw : Nat) (hrv : rv = 3 ∨ rv = 19) (out : Int32 × (Nat → Nat → Int32)) (e : fX11_take n x1 I rv = some out) : mm_T none (d + 4) 171 (mm_ent 171 [(.ref 1), (.int x1)]) (107, I, J, mm_rf rv sp rr w nw) (fun v h => v = some (.int out.1) ∧ h = (107, out.2, J, mm_rf rv sp rr w nw)) := by
  rcases hrv with rfl | rfl
  · unfold fX11_take at e
    refine mm_T.seg (f' := (5, [some (.ref 1), some (.int x1), none], [(.int x1), (.ref 18)])) (h' := (107, I, J, mm_rf 3 sp rr w nw)) 3 rfl ?_
    refine mm_T.call (t := 102) (as := [(.ref 18), (.int x1)]) (f' := (8, [some (.ref 1), some (.int x1), none], [])) rfl (tX7_isLoad (d + 3) x1 I J 3 sp rr w nw (Or.inl rfl) _ rfl) (fun v h hq => ?_)
    obtain ⟨rfl, rfl⟩ := hq
    refine mm_T.br (c := (fX7_isLoad x1 I 3) = 0) (a := ((11, [some (.ref 1), some (.int x1), none], []), (107, I, J, mm_rf 3 sp rr w nw))) (b := ((13, [some (.ref 1), some (.int x1), none], []), (107, I, J, mm_rf 3 sp rr w nw))) rfl (fun h2317 => ?_) (fun h2317 => ?_)
    · rw [if_pos h2317] at e
      refine mm_T.seg (f' := (12, [some (.ref 1), some (.int x1), none], [(.int (-1))])) (h' := (107, I, J, mm_rf 3 sp rr w nw)) 1 rfl ?_
      cases e
      exact mm_T.ret rfl ⟨rfl, rfl⟩
    · rw [if_neg h2317] at e
      refine mm_T.seg (f' := (18, [some (.ref 1), some (.int x1), none], [(.int x1), (.ref 18)])) (h' := (107, I, J, mm_rf 3 sp rr w nw)) 3 rfl ?_
      refine mm_T.call (t := 112) (as := [(.ref 18), (.int x1)]) (f' := (21, [some (.ref 1), some (.int x1), none], [])) rfl (tX7_placeOf (d + 2) x1 I J 3 sp rr w nw _ rfl) (fun v h hq => ?_)
      obtain ⟨rfl, rfl⟩ := hq
      refine mm_T.seg (f' := (27, [some (.ref 1), some (.int x1), some (.int (fX7_placeOf x1 I))], [(.int (fX7_placeOf x1 I)), (.ref 18)])) (h' := (107, I, J, mm_rf 3 sp rr w nw)) 4 rfl ?_
      refine mm_T.call (t := 101) (as := [(.ref 18), (.int (fX7_placeOf x1 I))]) (f' := (30, [some (.ref 1), some (.int x1), some (.int (fX7_placeOf x1 I))], [])) rfl (tX7_isBoard (d + 3) (fX7_placeOf x1 I) I J 3 sp rr w nw (Or.inl rfl) _ rfl) (fun v h hq => ?_)
      obtain ⟨rfl, rfl⟩ := hq
      refine mm_T.br (c := (fX7_isBoard (fX7_placeOf x1 I) I 3) = 0) (a := ((44, [some (.ref 1), some (.int x1), some (.int (fX7_placeOf x1 I))], []), (107, I, J, mm_rf 3 sp rr w nw))) (b := ((33, [some (.ref 1), some (.int x1), some (.int (fX7_placeOf x1 I))], []), (107, I, J, mm_rf 3 sp rr w nw))) rfl (fun h2318 => ?_) (fun h2318 => ?_)
      · rw [if_pos h2318] at e
        refine mm_T.seg (f' := (45, [some (.ref 1), some (.int x1), some (.int (fX7_placeOf x1 I))], [(.int (-1))])) (h' := (107, I, J, mm_rf 3 sp rr w nw)) 1 rfl ?_
        cases e
        exact mm_T.ret rfl ⟨rfl, rfl⟩
      · rw [if_neg h2318] at e
        refine mm_T.seg (f' := (38, [some (.ref 1), some (.int x1), some (.int (fX7_placeOf x1 I))], [(.int (fX7_placeOf x1 I)), (.ref 18)])) (h' := (107, I, J, mm_rf 3 sp rr w nw)) 3 rfl ?_
        refine mm_T.call (t := 119) (as := [(.ref 18), (.int (fX7_placeOf x1 I))]) (f' := (41, [some (.ref 1), some (.int x1), some (.int (fX7_placeOf x1 I))], [])) rfl (tX7_isAtBank (d + 0) (fX7_placeOf x1 I) I J 3 sp rr w nw (Or.inl rfl) _ rfl) (fun v h hq => ?_)
        obtain ⟨rfl, rfl⟩ := hq
        refine mm_T.br (c := (fX7_isAtBank (fX7_placeOf x1 I) I 3) = 0) (a := ((44, [some (.ref 1), some (.int x1), some (.int (fX7_placeOf x1 I))], []), (107, I, J, mm_rf 3 sp rr w nw))) (b := ((46, [some (.ref 1), some (.int x1), some (.int (fX7_placeOf x1 I))], []), (107, I, J, mm_rf 3 sp rr w nw))) rfl (fun h2319 => ?_) (fun h2319 => ?_)
        · rw [if_pos h2319] at e
          refine mm_T.seg (f' := (45, [some (.ref 1), some (.int x1), some (.int (fX7_placeOf x1 I))], [(.int (-1))])) (h' := (107, I, J, mm_rf 3 sp rr w nw)) 1 rfl ?_
          cases e
          exact mm_T.ret rfl ⟨rfl, rfl⟩
        · rw [if_neg h2319] at e
          refine mm_T.seg (f' := (50, [some (.ref 1), some (.int x1), some (.int (fX7_placeOf x1 I))], [(.ref 33)])) (h' := (107, I, J, mm_rf 3 sp rr w nw)) 2 rfl ?_
          obtain ⟨o2320, eo2320, e⟩ := mm_bind e
          refine mm_T.call (t := 16) (as := [(.ref 33)]) (f' := (53, [some (.ref 1), some (.int x1), some (.int (fX7_placeOf x1 I))], [])) rfl (tX2_beginAct (d + 1) n I J 3 sp rr w nw o2320 eo2320) (fun v h hq => ?_)
          obtain ⟨rfl, rfl⟩ := hq
          refine mm_T.seg (f' := (63, [some (.ref 1), some (.int x1), some (.int (fX7_placeOf x1 I))], [(.int (fX7_placeOf x1 I)), (.ref 18), (.int x1), (.ref 18)])) (h' := (107, o2320, J, mm_rf 3 sp rr w nw)) 6 rfl ?_
          refine mm_T.call (t := 120) (as := [(.ref 18), (.int (fX7_placeOf x1 I))]) (f' := (66, [some (.ref 1), some (.int x1), some (.int (fX7_placeOf x1 I))], [(.int x1), (.ref 18)])) rfl (tX7_bankOf (d + 0) (fX7_placeOf x1 I) o2320 J 3 sp rr w nw _ rfl) (fun v h hq => ?_)
          obtain ⟨rfl, rfl⟩ := hq
          refine mm_T.call (t := 113) (as := [(.ref 18), (.int x1), (.int (fX7_bankOf (fX7_placeOf x1 I) o2320))]) (f' := (69, [some (.ref 1), some (.int x1), some (.int (fX7_placeOf x1 I))], [])) rfl (tX7_setPlace (d + 2) x1 (fX7_bankOf (fX7_placeOf x1 I) o2320) o2320 J 3 sp rr w nw _ rfl) (fun v h hq => ?_)
          obtain ⟨rfl, rfl⟩ := hq
          refine mm_T.seg (f' := (70, [some (.ref 1), some (.int x1), some (.int (fX7_placeOf x1 I))], [(.int (fX7_placeOf x1 I))])) (h' := (107, (fX7_setPlace x1 (fX7_bankOf (fX7_placeOf x1 I) o2320) o2320), J, mm_rf 3 sp rr w nw)) 1 rfl ?_
          cases e
          exact mm_T.ret rfl ⟨rfl, rfl⟩
  · unfold fX11_take at e
    refine mm_T.seg (f' := (5, [some (.ref 1), some (.int x1), none], [(.int x1), (.ref 18)])) (h' := (107, I, J, mm_rf 19 sp rr w nw)) 3 rfl ?_
    refine mm_T.call (t := 102) (as := [(.ref 18), (.int x1)]) (f' := (8, [some (.ref 1), some (.int x1), none], [])) rfl (tX7_isLoad (d + 3) x1 I J 19 sp rr w nw (Or.inr rfl) _ rfl) (fun v h hq => ?_)
    obtain ⟨rfl, rfl⟩ := hq
    refine mm_T.br (c := (fX7_isLoad x1 I 19) = 0) (a := ((11, [some (.ref 1), some (.int x1), none], []), (107, I, J, mm_rf 19 sp rr w nw))) (b := ((13, [some (.ref 1), some (.int x1), none], []), (107, I, J, mm_rf 19 sp rr w nw))) rfl (fun h2317 => ?_) (fun h2317 => ?_)
    · rw [if_pos h2317] at e
      refine mm_T.seg (f' := (12, [some (.ref 1), some (.int x1), none], [(.int (-1))])) (h' := (107, I, J, mm_rf 19 sp rr w nw)) 1 rfl ?_
      cases e
      exact mm_T.ret rfl ⟨rfl, rfl⟩
    · rw [if_neg h2317] at e
      refine mm_T.seg (f' := (18, [some (.ref 1), some (.int x1), none], [(.int x1), (.ref 18)])) (h' := (107, I, J, mm_rf 19 sp rr w nw)) 3 rfl ?_
      refine mm_T.call (t := 112) (as := [(.ref 18), (.int x1)]) (f' := (21, [some (.ref 1), some (.int x1), none], [])) rfl (tX7_placeOf (d + 2) x1 I J 19 sp rr w nw _ rfl) (fun v h hq => ?_)
      obtain ⟨rfl, rfl⟩ := hq
      refine mm_T.seg (f' := (27, [some (.ref 1), some (.int x1), some (.int (fX7_placeOf x1 I))], [(.int (fX7_placeOf x1 I)), (.ref 18)])) (h' := (107, I, J, mm_rf 19 sp rr w nw)) 4 rfl ?_
      refine mm_T.call (t := 101) (as := [(.ref 18), (.int (fX7_placeOf x1 I))]) (f' := (30, [some (.ref 1), some (.int x1), some (.int (fX7_placeOf x1 I))], [])) rfl (tX7_isBoard (d + 3) (fX7_placeOf x1 I) I J 19 sp rr w nw (Or.inr rfl) _ rfl) (fun v h hq => ?_)
      obtain ⟨rfl, rfl⟩ := hq
      refine mm_T.br (c := (fX7_isBoard (fX7_placeOf x1 I) I 19) = 0) (a := ((44, [some (.ref 1), some (.int x1), some (.int (fX7_placeOf x1 I))], []), (107, I, J, mm_rf 19 sp rr w nw))) (b := ((33, [some (.ref 1), some (.int x1), some (.int (fX7_placeOf x1 I))], []), (107, I, J, mm_rf 19 sp rr w nw))) rfl (fun h2318 => ?_) (fun h2318 => ?_)
      · rw [if_pos h2318] at e
        refine mm_T.seg (f' := (45, [some (.ref 1), some (.int x1), some (.int (fX7_placeOf x1 I))], [(.int (-1))])) (h' := (107, I, J, mm_rf 19 sp rr w nw)) 1 rfl ?_
        cases e
        exact mm_T.ret rfl ⟨rfl, rfl⟩
      · rw [if_neg h2318] at e
        refine mm_T.seg (f' := (38, [some (.ref 1), some (.int x1), some (.int (fX7_placeOf x1 I))], [(.int (fX7_placeOf x1 I)), (.ref 18)])) (h' := (107, I, J, mm_rf 19 sp rr w nw)) 3 rfl ?_
        refine mm_T.call (t := 119) (as := [(.ref 18), (.int (fX7_placeOf x1 I))]) (f' := (41, [some (.ref 1), some (.int x1), some (.int (fX7_placeOf x1 I))], [])) rfl (tX7_isAtBank (d + 0) (fX7_placeOf x1 I) I J 19 sp rr w nw (Or.inr rfl) _ rfl) (fun v h hq => ?_)
        obtain ⟨rfl, rfl⟩ := hq
        refine mm_T.br (c := (fX7_isAtBank (fX7_placeOf x1 I) I 19) = 0) (a := ((44, [some (.ref 1), some (.int x1), some (.int (fX7_placeOf x1 I))], []), (107, I, J, mm_rf 19 sp rr w nw))) (b := ((46, [some (.ref 1), some (.int x1), some (.int (fX7_placeOf x1 I))], []), (107, I, J, mm_rf 19 sp rr w nw))) rfl (fun h2319 => ?_) (fun h2319 => ?_)
        · rw [if_pos h2319] at e
          refine mm_T.seg (f' := (45, [some (.ref 1), some (.int x1), some (.int (fX7_placeOf x1 I))], [(.int (-1))])) (h' := (107, I, J, mm_rf 19 sp rr w nw)) 1 rfl ?_
          cases e
          exact mm_T.ret rfl ⟨rfl, rfl⟩
        · rw [if_neg h2319] at e
          refine mm_T.seg (f' := (50, [some (.ref 1), some (.int x1), some (.int (fX7_placeOf x1 I))], [(.ref 33)])) (h' := (107, I, J, mm_rf 19 sp rr w nw)) 2 rfl ?_
          obtain ⟨o2320, eo2320, e⟩ := mm_bind e
          refine mm_T.call (t := 16) (as := [(.ref 33)]) (f' := (53, [some (.ref 1), some (.int x1), some (.int (fX7_placeOf x1 I))], [])) rfl (tX2_beginAct (d + 1) n I J 19 sp rr w nw o2320 eo2320) (fun v h hq => ?_)
          obtain ⟨rfl, rfl⟩ := hq
          refine mm_T.seg (f' := (63, [some (.ref 1), some (.int x1), some (.int (fX7_placeOf x1 I))], [(.int (fX7_placeOf x1 I)), (.ref 18), (.int x1), (.ref 18)])) (h' := (107, o2320, J, mm_rf 19 sp rr w nw)) 6 rfl ?_
          refine mm_T.call (t := 120) (as := [(.ref 18), (.int (fX7_placeOf x1 I))]) (f' := (66, [some (.ref 1), some (.int x1), some (.int (fX7_placeOf x1 I))], [(.int x1), (.ref 18)])) rfl (tX7_bankOf (d + 0) (fX7_placeOf x1 I) o2320 J 19 sp rr w nw _ rfl) (fun v h hq => ?_)
          obtain ⟨rfl, rfl⟩ := hq
          refine mm_T.call (t := 113) (as := [(.ref 18), (.int x1), (.int (fX7_bankOf (fX7_placeOf x1 I) o2320))]) (f' := (69, [some (.ref 1), some (.int x1), some (.int (fX7_placeOf x1 I))], [])) rfl (tX7_setPlace (d + 2) x1 (fX7_bankOf (fX7_placeOf x1 I) o2320) o2320 J 19 sp rr w nw _ rfl) (fun v h hq => ?_)
          obtain ⟨rfl, rfl⟩ := hq
          refine mm_T.seg (f' := (70, [some (.ref 1), some (.int x1), some (.int (fX7_placeOf x1 I))], [(.int (fX7_placeOf x1 I))])) (h' := (107, (fX7_setPlace x1 (fX7_bankOf (fX7_placeOf x1 I) o2320) o2320), J, mm_rf 19 sp rr w nw)) 1 rfl ?_
          cases e
          exact mm_T.ret rfl ⟨rfl, rfl⟩
set_option maxRecDepth 100000 in
set_option maxHeartbeats 4000000 in
theorem tX11_cool (d n : Nat) (x1 : Int32) (x2 : Int32) (I : Nat → Nat → Int32) (J : Nat → Nat → Int64) (rv sp rr w nw : Nat) (hrv : rv = 3 ∨ rv = 19) (out : Int32 × (Nat → Nat → Int32)) (e : fX11_cool n x1 x2 I rv = some out) : mm_T none (d + 3) 172 (mm_ent 172 [(.ref 1), (.int x1), (.int x2)]) (107, I, J, mm_rf rv sp rr w nw) (fun v h => v = some (.int out.1) ∧ h = (107, out.2, J, mm_rf rv sp rr w nw)) := by
  rcases hrv with rfl | rfl
  · unfold fX11_cool at e
    refine mm_T.seg (f' := (5, [some (.ref 1), some (.int x1), some (.int x2)], [(.int x1), (.ref 18)])) (h' := (107, I, J, mm_rf 3 sp rr w nw)) 3 rfl ?_
    refine mm_T.call (t := 101) (as := [(.ref 18), (.int x1)]) (f' := (8, [some (.ref 1), some (.int x1), some (.int x2)], [])) rfl (tX7_isBoard (d + 2) x1 I J 3 sp rr w nw (Or.inl rfl) _ rfl) (fun v h hq => ?_)
    obtain ⟨rfl, rfl⟩ := hq
    refine mm_T.br (c := (fX7_isBoard x1 I 3) = 0) (a := ((22, [some (.ref 1), some (.int x1), some (.int x2)], []), (107, I, J, mm_rf 3 sp rr w nw))) (b := ((11, [some (.ref 1), some (.int x1), some (.int x2)], []), (107, I, J, mm_rf 3 sp rr w nw))) rfl (fun h2321 => ?_) (fun h2321 => ?_)
    · rw [if_pos h2321] at e
      refine mm_T.seg (f' := (23, [some (.ref 1), some (.int x1), some (.int x2)], [(.int (-1))])) (h' := (107, I, J, mm_rf 3 sp rr w nw)) 1 rfl ?_
      cases e
      exact mm_T.ret rfl ⟨rfl, rfl⟩
    · rw [if_neg h2321] at e
      refine mm_T.seg (f' := (13, [some (.ref 1), some (.int x1), some (.int x2)], [(.int 1), (.int x2)])) (h' := (107, I, J, mm_rf 3 sp rr w nw)) 2 rfl ?_
      refine mm_T.br (c := x2 < 1) (a := ((22, [some (.ref 1), some (.int x1), some (.int x2)], []), (107, I, J, mm_rf 3 sp rr w nw))) (b := ((16, [some (.ref 1), some (.int x1), some (.int x2)], []), (107, I, J, mm_rf 3 sp rr w nw))) rfl (fun h2322 => ?_) (fun h2322 => ?_)
      · rw [if_pos h2322] at e
        refine mm_T.seg (f' := (23, [some (.ref 1), some (.int x1), some (.int x2)], [(.int (-1))])) (h' := (107, I, J, mm_rf 3 sp rr w nw)) 1 rfl ?_
        cases e
        exact mm_T.ret rfl ⟨rfl, rfl⟩
      · rw [if_neg h2322] at e
        refine mm_T.seg (f' := (19, [some (.ref 1), some (.int x1), some (.int x2)], [(.int 9), (.int x2)])) (h' := (107, I, J, mm_rf 3 sp rr w nw)) 2 rfl ?_
        refine mm_T.br (c := 9 < x2) (a := ((22, [some (.ref 1), some (.int x1), some (.int x2)], []), (107, I, J, mm_rf 3 sp rr w nw))) (b := ((24, [some (.ref 1), some (.int x1), some (.int x2)], []), (107, I, J, mm_rf 3 sp rr w nw))) rfl (fun h2323 => ?_) (fun h2323 => ?_)
        · rw [if_pos h2323] at e
          refine mm_T.seg (f' := (23, [some (.ref 1), some (.int x1), some (.int x2)], [(.int (-1))])) (h' := (107, I, J, mm_rf 3 sp rr w nw)) 1 rfl ?_
          cases e
          exact mm_T.ret rfl ⟨rfl, rfl⟩
        · rw [if_neg h2323] at e
          refine mm_T.seg (f' := (28, [some (.ref 1), some (.int x1), some (.int x2)], [(.ref 33)])) (h' := (107, I, J, mm_rf 3 sp rr w nw)) 2 rfl ?_
          obtain ⟨o2324, eo2324, e⟩ := mm_bind e
          refine mm_T.call (t := 16) (as := [(.ref 33)]) (f' := (31, [some (.ref 1), some (.int x1), some (.int x2)], [])) rfl (tX2_beginAct (d + 0) n I J 3 sp rr w nw o2324 eo2324) (fun v h hq => ?_)
          obtain ⟨rfl, rfl⟩ := hq
          refine mm_T.seg (f' := (42, [some (.ref 1), some (.int x1), some (.int x2)], [(.int x1), (.ref 18), (.int 0), (.int x1), (.ref 18)])) (h' := (107, o2324, J, mm_rf 3 sp rr w nw)) 7 rfl ?_
          refine mm_T.call (t := 107) (as := [(.ref 18), (.int x1)]) (f' := (45, [some (.ref 1), some (.int x1), some (.int x2)], [(.int 0), (.int x1), (.ref 18)])) rfl (tX7_heatOf (d + 0) x1 o2324 J 3 sp rr w nw _ rfl) (fun v h hq => ?_)
          obtain ⟨rfl, rfl⟩ := hq
          refine mm_T.seg (f' := (47, [some (.ref 1), some (.int x1), some (.int x2)], [(.int ((fX7_heatOf x1 o2324) - x2)), (.int 0), (.int x1), (.ref 18)])) (h' := (107, o2324, J, mm_rf 3 sp rr w nw)) 2 rfl ?_
          refine mm_T.call (t := 347) (as := [(.int 0), (.int ((fX7_heatOf x1 o2324) - x2))]) (f' := (50, [some (.ref 1), some (.int x1), some (.int x2)], [(.int x1), (.ref 18)])) rfl (tJ9_max (d + 2) 0 ((fX7_heatOf x1 o2324) - x2) o2324 J 3 sp rr w nw _ rfl) (fun v h hq => ?_)
          obtain ⟨rfl, rfl⟩ := hq
          refine mm_T.call (t := 108) (as := [(.ref 18), (.int x1), (.int (fJ9_max 0 ((fX7_heatOf x1 o2324) - x2)))]) (f' := (53, [some (.ref 1), some (.int x1), some (.int x2)], [])) rfl (tX7_setHeat (d + 0) x1 (fJ9_max 0 ((fX7_heatOf x1 o2324) - x2)) o2324 J 3 sp rr w nw _ rfl) (fun v h hq => ?_)
          obtain ⟨rfl, rfl⟩ := hq
          refine mm_T.seg (f' := (58, [some (.ref 1), some (.int x1), some (.int x2)], [(.int x1), (.ref 18)])) (h' := (107, (fX7_setHeat x1 (fJ9_max 0 ((fX7_heatOf x1 o2324) - x2)) o2324), J, mm_rf 3 sp rr w nw)) 3 rfl ?_
          refine mm_T.call (t := 107) (as := [(.ref 18), (.int x1)]) (f' := (61, [some (.ref 1), some (.int x1), some (.int x2)], [])) rfl (tX7_heatOf (d + 0) x1 (fX7_setHeat x1 (fJ9_max 0 ((fX7_heatOf x1 o2324) - x2)) o2324) J 3 sp rr w nw _ rfl) (fun v h hq => ?_)
          obtain ⟨rfl, rfl⟩ := hq
          cases e
          exact mm_T.ret rfl ⟨rfl, rfl⟩
  · unfold fX11_cool at e
    refine mm_T.seg (f' := (5, [some (.ref 1), some (.int x1), some (.int x2)], [(.int x1), (.ref 18)])) (h' := (107, I, J, mm_rf 19 sp rr w nw)) 3 rfl ?_
    refine mm_T.call (t := 101) (as := [(.ref 18), (.int x1)]) (f' := (8, [some (.ref 1), some (.int x1), some (.int x2)], [])) rfl (tX7_isBoard (d + 2) x1 I J 19 sp rr w nw (Or.inr rfl) _ rfl) (fun v h hq => ?_)
    obtain ⟨rfl, rfl⟩ := hq
    refine mm_T.br (c := (fX7_isBoard x1 I 19) = 0) (a := ((22, [some (.ref 1), some (.int x1), some (.int x2)], []), (107, I, J, mm_rf 19 sp rr w nw))) (b := ((11, [some (.ref 1), some (.int x1), some (.int x2)], []), (107, I, J, mm_rf 19 sp rr w nw))) rfl (fun h2321 => ?_) (fun h2321 => ?_)
    · rw [if_pos h2321] at e
      refine mm_T.seg (f' := (23, [some (.ref 1), some (.int x1), some (.int x2)], [(.int (-1))])) (h' := (107, I, J, mm_rf 19 sp rr w nw)) 1 rfl ?_
      cases e
      exact mm_T.ret rfl ⟨rfl, rfl⟩
    · rw [if_neg h2321] at e
      refine mm_T.seg (f' := (13, [some (.ref 1), some (.int x1), some (.int x2)], [(.int 1), (.int x2)])) (h' := (107, I, J, mm_rf 19 sp rr w nw)) 2 rfl ?_
      refine mm_T.br (c := x2 < 1) (a := ((22, [some (.ref 1), some (.int x1), some (.int x2)], []), (107, I, J, mm_rf 19 sp rr w nw))) (b := ((16, [some (.ref 1), some (.int x1), some (.int x2)], []), (107, I, J, mm_rf 19 sp rr w nw))) rfl (fun h2322 => ?_) (fun h2322 => ?_)
      · rw [if_pos h2322] at e
        refine mm_T.seg (f' := (23, [some (.ref 1), some (.int x1), some (.int x2)], [(.int (-1))])) (h' := (107, I, J, mm_rf 19 sp rr w nw)) 1 rfl ?_
        cases e
        exact mm_T.ret rfl ⟨rfl, rfl⟩
      · rw [if_neg h2322] at e
        refine mm_T.seg (f' := (19, [some (.ref 1), some (.int x1), some (.int x2)], [(.int 9), (.int x2)])) (h' := (107, I, J, mm_rf 19 sp rr w nw)) 2 rfl ?_
        refine mm_T.br (c := 9 < x2) (a := ((22, [some (.ref 1), some (.int x1), some (.int x2)], []), (107, I, J, mm_rf 19 sp rr w nw))) (b := ((24, [some (.ref 1), some (.int x1), some (.int x2)], []), (107, I, J, mm_rf 19 sp rr w nw))) rfl (fun h2323 => ?_) (fun h2323 => ?_)
        · rw [if_pos h2323] at e
          refine mm_T.seg (f' := (23, [some (.ref 1), some (.int x1), some (.int x2)], [(.int (-1))])) (h' := (107, I, J, mm_rf 19 sp rr w nw)) 1 rfl ?_
          cases e
          exact mm_T.ret rfl ⟨rfl, rfl⟩
        · rw [if_neg h2323] at e
          refine mm_T.seg (f' := (28, [some (.ref 1), some (.int x1), some (.int x2)], [(.ref 33)])) (h' := (107, I, J, mm_rf 19 sp rr w nw)) 2 rfl ?_
          obtain ⟨o2324, eo2324, e⟩ := mm_bind e
          refine mm_T.call (t := 16) (as := [(.ref 33)]) (f' := (31, [some (.ref 1), some (.int x1), some (.int x2)], [])) rfl (tX2_beginAct (d + 0) n I J 19 sp rr w nw o2324 eo2324) (fun v h hq => ?_)
          obtain ⟨rfl, rfl⟩ := hq
          refine mm_T.seg (f' := (42, [some (.ref 1), some (.int x1), some (.int x2)], [(.int x1), (.ref 18), (.int 0), (.int x1), (.ref 18)])) (h' := (107, o2324, J, mm_rf 19 sp rr w nw)) 7 rfl ?_
          refine mm_T.call (t := 107) (as := [(.ref 18), (.int x1)]) (f' := (45, [some (.ref 1), some (.int x1), some (.int x2)], [(.int 0), (.int x1), (.ref 18)])) rfl (tX7_heatOf (d + 0) x1 o2324 J 19 sp rr w nw _ rfl) (fun v h hq => ?_)
          obtain ⟨rfl, rfl⟩ := hq
          refine mm_T.seg (f' := (47, [some (.ref 1), some (.int x1), some (.int x2)], [(.int ((fX7_heatOf x1 o2324) - x2)), (.int 0), (.int x1), (.ref 18)])) (h' := (107, o2324, J, mm_rf 19 sp rr w nw)) 2 rfl ?_
          refine mm_T.call (t := 347) (as := [(.int 0), (.int ((fX7_heatOf x1 o2324) - x2))]) (f' := (50, [some (.ref 1), some (.int x1), some (.int x2)], [(.int x1), (.ref 18)])) rfl (tJ9_max (d + 2) 0 ((fX7_heatOf x1 o2324) - x2) o2324 J 19 sp rr w nw _ rfl) (fun v h hq => ?_)
          obtain ⟨rfl, rfl⟩ := hq
          refine mm_T.call (t := 108) (as := [(.ref 18), (.int x1), (.int (fJ9_max 0 ((fX7_heatOf x1 o2324) - x2)))]) (f' := (53, [some (.ref 1), some (.int x1), some (.int x2)], [])) rfl (tX7_setHeat (d + 0) x1 (fJ9_max 0 ((fX7_heatOf x1 o2324) - x2)) o2324 J 19 sp rr w nw _ rfl) (fun v h hq => ?_)
          obtain ⟨rfl, rfl⟩ := hq
          refine mm_T.seg (f' := (58, [some (.ref 1), some (.int x1), some (.int x2)], [(.int x1), (.ref 18)])) (h' := (107, (fX7_setHeat x1 (fJ9_max 0 ((fX7_heatOf x1 o2324) - x2)) o2324), J, mm_rf 19 sp rr w nw)) 3 rfl ?_
          refine mm_T.call (t := 107) (as := [(.ref 18), (.int x1)]) (f' := (61, [some (.ref 1), some (.int x1), some (.int x2)], [])) rfl (tX7_heatOf (d + 0) x1 (fX7_setHeat x1 (fJ9_max 0 ((fX7_heatOf x1 o2324) - x2)) o2324) J 19 sp rr w nw _ rfl) (fun v h hq => ?_)
          obtain ⟨rfl, rfl⟩ := hq
          cases e
          exact mm_T.ret rfl ⟨rfl, rfl⟩
set_option maxRecDepth 100000 in
set_option maxHeartbeats 4000000 in
theorem tX11_undo (d n : Nat) (I : Nat → Nat → Int32) (J : Nat → Nat → Int64) (rv sp rr w nw : Nat) (out : Int32 × (Nat → Nat → Int32)) (e : fX11_undo n I = some out) : mm_T none (d + 3) 173 (mm_ent 173 [(.ref 1)]) (107, I, J, mm_rf rv sp rr w nw) (fun v h => v = some (.int out.1) ∧ h = (107, out.2, J, mm_rf rv sp rr w nw)) := by
  unfold fX11_undo at e
  refine mm_T.seg (f' := (4, [some (.ref 1)], [(.ref 33)])) (h' := (107, I, J, mm_rf rv sp rr w nw)) 2 rfl ?_
  obtain ⟨o2325, eo2325, e⟩ := mm_bind e
  refine mm_T.call (t := 17) (as := [(.ref 33)]) (f' := (7, [some (.ref 1)], [])) rfl (tX2_takeBack (d + 0) n I J rv sp rr w nw o2325 eo2325) (fun v h hq => ?_)
  obtain ⟨rfl, rfl⟩ := hq
  by_cases h2326 : o2325.1 = 0 ∨ o2325.1 = 1
  case neg => rw [if_neg h2326] at e; cases e
  rw [if_pos h2326] at e
  cases e
  first | exact mm_T.retZ (v := some (.int o2325.1)) rfl h2326 ⟨rfl, rfl⟩ | exact mm_T.retZ (v := some (.int out)) rfl h2326 ⟨rfl, rfl⟩
set_option maxRecDepth 100000 in
set_option maxHeartbeats 4000000 in
theorem tX11_redo (d n : Nat) (I : Nat → Nat → Int32) (J : Nat → Nat → Int64) (rv sp rr w nw : Nat) (out : Int32 × (Nat → Nat → Int32)) (e : fX11_redo n I = some out) : mm_T none (d + 3) 174 (mm_ent 174 [(.ref 1)]) (107, I, J, mm_rf rv sp rr w nw) (fun v h => v = some (.int out.1) ∧ h = (107, out.2, J, mm_rf rv sp rr w nw)) := by
  unfold fX11_redo at e
  refine mm_T.seg (f' := (4, [some (.ref 1)], [(.ref 33)])) (h' := (107, I, J, mm_rf rv sp rr w nw)) 2 rfl ?_
  obtain ⟨o2327, eo2327, e⟩ := mm_bind e
  refine mm_T.call (t := 18) (as := [(.ref 33)]) (f' := (7, [some (.ref 1)], [])) rfl (tX2_doAgain (d + 0) n I J rv sp rr w nw o2327 eo2327) (fun v h hq => ?_)
  obtain ⟨rfl, rfl⟩ := hq
  by_cases h2328 : o2327.1 = 0 ∨ o2327.1 = 1
  case neg => rw [if_neg h2328] at e; cases e
  rw [if_pos h2328] at e
  cases e
  first | exact mm_T.retZ (v := some (.int o2327.1)) rfl h2328 ⟨rfl, rfl⟩ | exact mm_T.retZ (v := some (.int out)) rfl h2328 ⟨rfl, rfl⟩
set_option maxRecDepth 100000 in
set_option maxHeartbeats 4000000 in
theorem tX11_landings (d n : Nat) (x1 : Int32) (I : Nat → Nat → Int32) (J : Nat → Nat → Int64) (rv sp rr w nw : Nat) (hrv : rv = 3 ∨ rv = 19) (out : Int32) (e : fX11_landings n x1 I rv = some out) : mm_T none (d + 4) 175 (mm_ent 175 [(.ref 1), (.int x1)]) (107, I, J, mm_rf rv sp rr w nw) (fun v h => v = some (.int out) ∧ h = (107, I, J, mm_rf rv sp rr w nw)) := by
  rcases hrv with rfl | rfl
  · unfold fX11_landings at e
    refine mm_T.seg (f' := (5, [some (.ref 1), some (.int x1)], [(.int x1), (.ref 18)])) (h' := (107, I, J, mm_rf 3 sp rr w nw)) 3 rfl ?_
    refine mm_T.call (t := 101) (as := [(.ref 18), (.int x1)]) (f' := (8, [some (.ref 1), some (.int x1)], [])) rfl (tX7_isBoard (d + 3) x1 I J 3 sp rr w nw (Or.inl rfl) _ rfl) (fun v h hq => ?_)
    obtain ⟨rfl, rfl⟩ := hq
    refine mm_T.br (c := (fX7_isBoard x1 I 3) = 0) (a := ((22, [some (.ref 1), some (.int x1)], []), (107, I, J, mm_rf 3 sp rr w nw))) (b := ((11, [some (.ref 1), some (.int x1)], []), (107, I, J, mm_rf 3 sp rr w nw))) rfl (fun h2329 => ?_) (fun h2329 => ?_)
    · rw [if_pos h2329] at e
      refine mm_T.seg (f' := (23, [some (.ref 1), some (.int x1)], [(.int (-1))])) (h' := (107, I, J, mm_rf 3 sp rr w nw)) 1 rfl ?_
      cases e
      exact mm_T.ret rfl ⟨rfl, rfl⟩
    · rw [if_neg h2329] at e
      refine mm_T.seg (f' := (16, [some (.ref 1), some (.int x1)], [(.int x1), (.ref 37)])) (h' := (107, I, J, mm_rf 3 sp rr w nw)) 3 rfl ?_
      obtain ⟨o2330, eo2330, e⟩ := mm_bind e
      refine mm_T.call (t := 85) (as := [(.ref 37), (.int x1)]) (f' := (19, [some (.ref 1), some (.int x1)], [])) rfl (tX6_landingBits (d + 0) n x1 I J 3 sp rr w nw (Or.inl rfl) o2330 eo2330) (fun v h hq => ?_)
      obtain ⟨rfl, rfl⟩ := hq
      refine mm_T.seg (f' := (23, [some (.ref 1), some (.int x1)], [(.int o2330)])) (h' := (107, I, J, mm_rf 3 sp rr w nw)) 1 rfl ?_
      cases e
      exact mm_T.ret rfl ⟨rfl, rfl⟩
  · unfold fX11_landings at e
    refine mm_T.seg (f' := (5, [some (.ref 1), some (.int x1)], [(.int x1), (.ref 18)])) (h' := (107, I, J, mm_rf 19 sp rr w nw)) 3 rfl ?_
    refine mm_T.call (t := 101) (as := [(.ref 18), (.int x1)]) (f' := (8, [some (.ref 1), some (.int x1)], [])) rfl (tX7_isBoard (d + 3) x1 I J 19 sp rr w nw (Or.inr rfl) _ rfl) (fun v h hq => ?_)
    obtain ⟨rfl, rfl⟩ := hq
    refine mm_T.br (c := (fX7_isBoard x1 I 19) = 0) (a := ((22, [some (.ref 1), some (.int x1)], []), (107, I, J, mm_rf 19 sp rr w nw))) (b := ((11, [some (.ref 1), some (.int x1)], []), (107, I, J, mm_rf 19 sp rr w nw))) rfl (fun h2329 => ?_) (fun h2329 => ?_)
    · rw [if_pos h2329] at e
      refine mm_T.seg (f' := (23, [some (.ref 1), some (.int x1)], [(.int (-1))])) (h' := (107, I, J, mm_rf 19 sp rr w nw)) 1 rfl ?_
      cases e
      exact mm_T.ret rfl ⟨rfl, rfl⟩
    · rw [if_neg h2329] at e
      refine mm_T.seg (f' := (16, [some (.ref 1), some (.int x1)], [(.int x1), (.ref 37)])) (h' := (107, I, J, mm_rf 19 sp rr w nw)) 3 rfl ?_
      obtain ⟨o2330, eo2330, e⟩ := mm_bind e
      refine mm_T.call (t := 85) (as := [(.ref 37), (.int x1)]) (f' := (19, [some (.ref 1), some (.int x1)], [])) rfl (tX6_landingBits (d + 0) n x1 I J 19 sp rr w nw (Or.inr rfl) o2330 eo2330) (fun v h hq => ?_)
      obtain ⟨rfl, rfl⟩ := hq
      refine mm_T.seg (f' := (23, [some (.ref 1), some (.int x1)], [(.int o2330)])) (h' := (107, I, J, mm_rf 19 sp rr w nw)) 1 rfl ?_
      cases e
      exact mm_T.ret rfl ⟨rfl, rfl⟩
set_option maxRecDepth 100000 in
set_option maxHeartbeats 4000000 in
theorem tX11_drift (d n : Nat) (x1 : Int32) (I : Nat → Nat → Int32) (J : Nat → Nat → Int64) (rv sp rr w nw : Nat) (hrv : rv = 3 ∨ rv = 19) (out : Int32) (e : fX11_drift n x1 I rv = some out) : mm_T none (d + 4) 176 (mm_ent 176 [(.ref 1), (.int x1)]) (107, I, J, mm_rf rv sp rr w nw) (fun v h => v = some (.int out) ∧ h = (107, I, J, mm_rf rv sp rr w nw)) := by
  rcases hrv with rfl | rfl
  · unfold fX11_drift at e
    refine mm_T.seg (f' := (5, [some (.ref 1), some (.int x1)], [(.int x1), (.ref 18)])) (h' := (107, I, J, mm_rf 3 sp rr w nw)) 3 rfl ?_
    refine mm_T.call (t := 101) (as := [(.ref 18), (.int x1)]) (f' := (8, [some (.ref 1), some (.int x1)], [])) rfl (tX7_isBoard (d + 3) x1 I J 3 sp rr w nw (Or.inl rfl) _ rfl) (fun v h hq => ?_)
    obtain ⟨rfl, rfl⟩ := hq
    refine mm_T.br (c := (fX7_isBoard x1 I 3) = 0) (a := ((22, [some (.ref 1), some (.int x1)], []), (107, I, J, mm_rf 3 sp rr w nw))) (b := ((11, [some (.ref 1), some (.int x1)], []), (107, I, J, mm_rf 3 sp rr w nw))) rfl (fun h2331 => ?_) (fun h2331 => ?_)
    · rw [if_pos h2331] at e
      refine mm_T.seg (f' := (23, [some (.ref 1), some (.int x1)], [(.int (-1))])) (h' := (107, I, J, mm_rf 3 sp rr w nw)) 1 rfl ?_
      cases e
      exact mm_T.ret rfl ⟨rfl, rfl⟩
    · rw [if_neg h2331] at e
      refine mm_T.seg (f' := (16, [some (.ref 1), some (.int x1)], [(.int x1), (.ref 37)])) (h' := (107, I, J, mm_rf 3 sp rr w nw)) 3 rfl ?_
      obtain ⟨o2332, eo2332, e⟩ := mm_bind e
      refine mm_T.call (t := 86) (as := [(.ref 37), (.int x1)]) (f' := (19, [some (.ref 1), some (.int x1)], [])) rfl (tX6_unsteered (d + 0) n x1 I J 3 sp rr w nw (Or.inl rfl) o2332 eo2332) (fun v h hq => ?_)
      obtain ⟨rfl, rfl⟩ := hq
      refine mm_T.seg (f' := (23, [some (.ref 1), some (.int x1)], [(.int o2332)])) (h' := (107, I, J, mm_rf 3 sp rr w nw)) 1 rfl ?_
      cases e
      exact mm_T.ret rfl ⟨rfl, rfl⟩
  · unfold fX11_drift at e
    refine mm_T.seg (f' := (5, [some (.ref 1), some (.int x1)], [(.int x1), (.ref 18)])) (h' := (107, I, J, mm_rf 19 sp rr w nw)) 3 rfl ?_
    refine mm_T.call (t := 101) (as := [(.ref 18), (.int x1)]) (f' := (8, [some (.ref 1), some (.int x1)], [])) rfl (tX7_isBoard (d + 3) x1 I J 19 sp rr w nw (Or.inr rfl) _ rfl) (fun v h hq => ?_)
    obtain ⟨rfl, rfl⟩ := hq
    refine mm_T.br (c := (fX7_isBoard x1 I 19) = 0) (a := ((22, [some (.ref 1), some (.int x1)], []), (107, I, J, mm_rf 19 sp rr w nw))) (b := ((11, [some (.ref 1), some (.int x1)], []), (107, I, J, mm_rf 19 sp rr w nw))) rfl (fun h2331 => ?_) (fun h2331 => ?_)
    · rw [if_pos h2331] at e
      refine mm_T.seg (f' := (23, [some (.ref 1), some (.int x1)], [(.int (-1))])) (h' := (107, I, J, mm_rf 19 sp rr w nw)) 1 rfl ?_
      cases e
      exact mm_T.ret rfl ⟨rfl, rfl⟩
    · rw [if_neg h2331] at e
      refine mm_T.seg (f' := (16, [some (.ref 1), some (.int x1)], [(.int x1), (.ref 37)])) (h' := (107, I, J, mm_rf 19 sp rr w nw)) 3 rfl ?_
      obtain ⟨o2332, eo2332, e⟩ := mm_bind e
      refine mm_T.call (t := 86) (as := [(.ref 37), (.int x1)]) (f' := (19, [some (.ref 1), some (.int x1)], [])) rfl (tX6_unsteered (d + 0) n x1 I J 19 sp rr w nw (Or.inr rfl) o2332 eo2332) (fun v h hq => ?_)
      obtain ⟨rfl, rfl⟩ := hq
      refine mm_T.seg (f' := (23, [some (.ref 1), some (.int x1)], [(.int o2332)])) (h' := (107, I, J, mm_rf 19 sp rr w nw)) 1 rfl ?_
      cases e
      exact mm_T.ret rfl ⟨rfl, rfl⟩
set_option maxRecDepth 100000 in
set_option maxHeartbeats 4000000 in
theorem tX11_rows (d n : Nat) (x1 : Int32) (I : Nat → Nat → Int32) (J : Nat → Nat → Int64) (rv sp rr w nw : Nat) (hrv : rv = 3 ∨ rv = 19) (out : Int32 × (Nat → Nat → Int32)) (e : fX11_rows n x1 I rv = some out) : mm_T none (d + 4) 177 (mm_ent 177 [(.ref 1), (.int x1)]) (107, I, J, mm_rf rv sp rr w nw) (fun v h => v = some (.int out.1) ∧ h = (107, out.2, J, mm_rf rv sp rr w nw)) := by
  rcases hrv with rfl | rfl
  · unfold fX11_rows at e
    refine mm_T.seg (f' := (5, [some (.ref 1), some (.int x1)], [(.int x1), (.ref 18)])) (h' := (107, I, J, mm_rf 3 sp rr w nw)) 3 rfl ?_
    refine mm_T.call (t := 101) (as := [(.ref 18), (.int x1)]) (f' := (8, [some (.ref 1), some (.int x1)], [])) rfl (tX7_isBoard (d + 3) x1 I J 3 sp rr w nw (Or.inl rfl) _ rfl) (fun v h hq => ?_)
    obtain ⟨rfl, rfl⟩ := hq
    refine mm_T.br (c := (fX7_isBoard x1 I 3) = 0) (a := ((22, [some (.ref 1), some (.int x1)], []), (107, I, J, mm_rf 3 sp rr w nw))) (b := ((11, [some (.ref 1), some (.int x1)], []), (107, I, J, mm_rf 3 sp rr w nw))) rfl (fun h2333 => ?_) (fun h2333 => ?_)
    · rw [if_pos h2333] at e
      refine mm_T.seg (f' := (23, [some (.ref 1), some (.int x1)], [(.int (-1))])) (h' := (107, I, J, mm_rf 3 sp rr w nw)) 1 rfl ?_
      cases e
      exact mm_T.ret rfl ⟨rfl, rfl⟩
    · rw [if_neg h2333] at e
      refine mm_T.seg (f' := (16, [some (.ref 1), some (.int x1)], [(.int x1), (.ref 37)])) (h' := (107, I, J, mm_rf 3 sp rr w nw)) 3 rfl ?_
      obtain ⟨o2334, eo2334, e⟩ := mm_bind e
      refine mm_T.call (t := 88) (as := [(.ref 37), (.int x1)]) (f' := (19, [some (.ref 1), some (.int x1)], [])) rfl (tX6_countRows (d + 0) n x1 I J 3 sp rr w nw (Or.inl rfl) o2334 eo2334) (fun v h hq => ?_)
      obtain ⟨rfl, rfl⟩ := hq
      refine mm_T.seg (f' := (23, [some (.ref 1), some (.int x1)], [(.int o2334.1)])) (h' := (107, o2334.2, J, mm_rf 3 sp rr w nw)) 1 rfl ?_
      cases e
      exact mm_T.ret rfl ⟨rfl, rfl⟩
  · unfold fX11_rows at e
    refine mm_T.seg (f' := (5, [some (.ref 1), some (.int x1)], [(.int x1), (.ref 18)])) (h' := (107, I, J, mm_rf 19 sp rr w nw)) 3 rfl ?_
    refine mm_T.call (t := 101) (as := [(.ref 18), (.int x1)]) (f' := (8, [some (.ref 1), some (.int x1)], [])) rfl (tX7_isBoard (d + 3) x1 I J 19 sp rr w nw (Or.inr rfl) _ rfl) (fun v h hq => ?_)
    obtain ⟨rfl, rfl⟩ := hq
    refine mm_T.br (c := (fX7_isBoard x1 I 19) = 0) (a := ((22, [some (.ref 1), some (.int x1)], []), (107, I, J, mm_rf 19 sp rr w nw))) (b := ((11, [some (.ref 1), some (.int x1)], []), (107, I, J, mm_rf 19 sp rr w nw))) rfl (fun h2333 => ?_) (fun h2333 => ?_)
    · rw [if_pos h2333] at e
      refine mm_T.seg (f' := (23, [some (.ref 1), some (.int x1)], [(.int (-1))])) (h' := (107, I, J, mm_rf 19 sp rr w nw)) 1 rfl ?_
      cases e
      exact mm_T.ret rfl ⟨rfl, rfl⟩
    · rw [if_neg h2333] at e
      refine mm_T.seg (f' := (16, [some (.ref 1), some (.int x1)], [(.int x1), (.ref 37)])) (h' := (107, I, J, mm_rf 19 sp rr w nw)) 3 rfl ?_
      obtain ⟨o2334, eo2334, e⟩ := mm_bind e
      refine mm_T.call (t := 88) (as := [(.ref 37), (.int x1)]) (f' := (19, [some (.ref 1), some (.int x1)], [])) rfl (tX6_countRows (d + 0) n x1 I J 19 sp rr w nw (Or.inr rfl) o2334 eo2334) (fun v h hq => ?_)
      obtain ⟨rfl, rfl⟩ := hq
      refine mm_T.seg (f' := (23, [some (.ref 1), some (.int x1)], [(.int o2334.1)])) (h' := (107, o2334.2, J, mm_rf 19 sp rr w nw)) 1 rfl ?_
      cases e
      exact mm_T.ret rfl ⟨rfl, rfl⟩
set_option maxRecDepth 100000 in
set_option maxHeartbeats 4000000 in
theorem tlX3_addAll_44_L2 (d : Nat) (Q : Option Value → mm_H → Prop) : ∀ (n : Nat) (y2 : Int32) (y3 : Int32) (I : Nat → Nat → Int32) (J : Nat → Nat → Int64) (rv sp rr w nw : Nat), ∀ (out : (Nat → Nat → Int32)), fX3_addAll_44_L2 n y2 y3 I = some out → mm_T none (d + 1) 25 (26, [none, none, none, none], []) (107, out, J, mm_rf rv sp rr w nw) Q → mm_T none (d + 1) 25 (2, [some (.ref 35), some (.ref 44), some (.int y2), some (.int y3)], []) (107, I, J, mm_rf rv sp rr w nw) Q := by
  intro n
  induction n with
  | zero =>
    intro y2 y3 I J rv sp rr w nw out e k
    rw [fX3_addAll_44_L2] at e; cases e
  | succ n ih =>
    intro y2 y3 I J rv sp rr w nw out e k
    rw [fX3_addAll_44_L2] at e
    refine mm_T.seg (f' := (4, [some (.ref 35), some (.ref 44), some (.int y2), some (.int y3)], [(.int y2), (.int y3)])) (h' := (107, I, J, mm_rf rv sp rr w nw)) 2 rfl ?_
    refine mm_T.br (c := y3 < y2) (a := ((7, [some (.ref 35), some (.ref 44), some (.int y2), some (.int y3)], []), (107, I, J, mm_rf rv sp rr w nw))) (b := ((26, [some (.ref 35), some (.ref 44), some (.int y2), some (.int y3)], []), (107, I, J, mm_rf rv sp rr w nw))) rfl (fun h2340 => ?_) (fun h2340 => ?_)
    · rw [if_pos h2340] at e
      refine mm_T.seg (f' := (10, [some (.ref 35), some (.ref 44), some (.int y2), some (.int y3)], [(.int 6), (.int y3)])) (h' := (107, I, J, mm_rf rv sp rr w nw)) 3 rfl ?_
      refine mm_T.br (c := y3 < 6) (a := ((13, [some (.ref 35), some (.ref 44), some (.int y2), some (.int y3)], []), (107, I, J, mm_rf rv sp rr w nw))) (b := ((26, [some (.ref 35), some (.ref 44), some (.int y2), some (.int y3)], []), (107, I, J, mm_rf rv sp rr w nw))) rfl (fun h2341 => ?_) (fun h2341 => ?_)
      · rw [if_pos h2341] at e
        refine mm_T.seg (f' := (16, [some (.ref 35), some (.ref 44), some (.int y2), some (.int y3)], [(.int y3), (.ref 44), (.ref 35)])) (h' := (107, I, J, mm_rf rv sp rr w nw)) 3 rfl ?_
        by_cases h2342 : y3 < 0 ∨ 6 ≤ y3.toNatClampNeg
        · rw [if_pos h2342] at e; cases e
        rw [if_neg h2342] at e
        refine mm_T.guard (y := ((17, [some (.ref 35), some (.ref 44), some (.int y2), some (.int y3)], [(.int (I 44 y3.toNatClampNeg)), (.ref 35)]), (107, I, J, mm_rf rv sp rr w nw))) rfl h2342 ?_
        obtain ⟨o2343, eo2343, e⟩ := mm_bind e
        refine mm_T.call (t := 24) (as := [(.ref 35), (.int (I 44 y3.toNatClampNeg))]) (f' := (20, [some (.ref 35), some (.ref 44), some (.int y2), some (.int y3)], [])) rfl (tX3_add (d + 0) (I 44 y3.toNatClampNeg) I J rv sp rr w nw o2343 eo2343) (fun v h hq => ?_)
        obtain ⟨rfl, rfl⟩ := hq
        refine mm_T.seg (f' := (2, [some (.ref 35), some (.ref 44), some (.int y2), some (.int (y3 + 1))], [])) (h' := (107, o2343, J, mm_rf rv sp rr w nw)) 2 rfl ?_
        refine mm_T.mask [true, true, true, true] ?_
        exact ih y2 (y3 + 1) o2343 J rv sp rr w nw out e k
      · rw [if_neg h2341] at e
        cases e
        refine mm_T.mask [false, false, false, false] ?_
        exact k
    · rw [if_neg h2340] at e
      cases e
      refine mm_T.mask [false, false, false, false] ?_
      exact k
set_option maxRecDepth 100000 in
set_option maxHeartbeats 4000000 in
theorem tX3_addAll_44 (d n : Nat) (x2 : Int32) (I : Nat → Nat → Int32) (J : Nat → Nat → Int64) (rv sp rr w nw : Nat) (out : (Nat → Nat → Int32)) (e : fX3_addAll_44 n x2 I = some out) : mm_T none (d + 1) 25 (mm_ent 25 [(.ref 35), (.ref 44), (.int x2)]) (107, I, J, mm_rf rv sp rr w nw) (fun v h => v = none ∧ h = (107, out, J, mm_rf rv sp rr w nw)) := by
  unfold fX3_addAll_44 at e
  refine mm_T.seg (f' := (2, [some (.ref 35), some (.ref 44), some (.int x2), some (.int 0)], [])) (h' := (107, I, J, mm_rf rv sp rr w nw)) 2 rfl ?_
  refine mm_T.mask [true, true, true, true] ?_
  obtain ⟨o2344, eo2344, e⟩ := mm_bind e
  refine tlX3_addAll_44_L2 d _ n x2 0 I J rv sp rr w nw o2344 eo2344 ?_
  cases e
  exact mm_T.ret rfl ⟨rfl, rfl⟩
set_option maxRecDepth 100000 in
set_option maxHeartbeats 4000000 in
theorem tbX11_coolest_J38 (d : Nat) (I : Nat → Nat → Int32) (J : Nat → Nat → Int64) (rv sp rr w nw : Nat) (out : Int32 × (Nat → Nat → Int32)) (e : fX11_coolest_J38 I = some out) : mm_T none (d + 34) 178 (38, [none, none, none], []) (107, I, J, mm_rf rv sp rr w nw) (fun v h => v = some (.int out.1) ∧ h = (107, out.2, J, mm_rf rv sp rr w nw)) := by
  unfold fX11_coolest_J38 at e
  refine mm_T.seg (f' := (39, [none, none, none], [(.int (-1))])) (h' := (107, I, J, mm_rf rv sp rr w nw)) 1 rfl ?_
  cases e
  exact mm_T.ret rfl ⟨rfl, rfl⟩
set_option maxRecDepth 100000 in
set_option maxHeartbeats 4000000 in
theorem tX11_coolest (d n : Nat) (x1 : Int32) (x2 : Int32) (I : Nat → Nat → Int32) (J : Nat → Nat → Int64) (rv sp rr w nw : Nat) (hrv : rv = 3 ∨ rv = 19) (out : Int32 × (Nat → Nat → Int32)) (e : fX11_coolest n x1 x2 I rv = some out) : mm_T none (d + 34) 178 (mm_ent 178 [(.ref 1), (.int x1), (.int x2)]) (107, I, J, mm_rf rv sp rr w nw) (fun v h => v = some (.int out.1) ∧ h = (107, out.2, J, mm_rf rv sp rr w nw)) := by
  rcases hrv with rfl | rfl
  · unfold fX11_coolest at e
    refine mm_T.seg (f' := (4, [some (.ref 1), some (.int x1), some (.int x2)], [(.ref 35)])) (h' := (107, I, J, mm_rf 3 sp rr w nw)) 2 rfl ?_
    refine mm_T.call (t := 23) (as := [(.ref 35)]) (f' := (7, [some (.ref 1), some (.int x1), some (.int x2)], [])) rfl (tX3_clear (d + 33) I J 3 sp rr w nw _ rfl) (fun v h hq => ?_)
    obtain ⟨rfl, rfl⟩ := hq
    refine mm_T.seg (f' := (8, [some (.ref 1), some (.int x1), some (.int x2)], [(.int x2)])) (h' := (107, (fX3_clear I), J, mm_rf 3 sp rr w nw)) 1 rfl ?_
    refine mm_T.br (c := x2 < 0) (a := ((38, [some (.ref 1), some (.int x1), some (.int x2)], []), (107, (fX3_clear I), J, mm_rf 3 sp rr w nw))) (b := ((11, [some (.ref 1), some (.int x1), some (.int x2)], []), (107, (fX3_clear I), J, mm_rf 3 sp rr w nw))) rfl (fun h2335 => ?_) (fun h2335 => ?_)
    · rw [if_pos h2335] at e
      refine mm_T.mask [false, false, false] ?_
      exact tbX11_coolest_J38 d (fX3_clear I) J 3 sp rr w nw out e
    · rw [if_neg h2335] at e
      refine mm_T.seg (f' := (13, [some (.ref 1), some (.int x1), some (.int x2)], [(.int 2), (.int x2)])) (h' := (107, (fX3_clear I), J, mm_rf 3 sp rr w nw)) 2 rfl ?_
      refine mm_T.br (c := 2 < x2) (a := ((38, [some (.ref 1), some (.int x1), some (.int x2)], []), (107, (fX3_clear I), J, mm_rf 3 sp rr w nw))) (b := ((16, [some (.ref 1), some (.int x1), some (.int x2)], []), (107, (fX3_clear I), J, mm_rf 3 sp rr w nw))) rfl (fun h2336 => ?_) (fun h2336 => ?_)
      · rw [if_pos h2336] at e
        refine mm_T.mask [false, false, false] ?_
        exact tbX11_coolest_J38 d (fX3_clear I) J 3 sp rr w nw out e
      · rw [if_neg h2336] at e
        refine mm_T.seg (f' := (21, [some (.ref 1), some (.int x1), some (.int x2)], [(.int x1), (.ref 18)])) (h' := (107, (fX3_clear I), J, mm_rf 3 sp rr w nw)) 3 rfl ?_
        refine mm_T.call (t := 101) (as := [(.ref 18), (.int x1)]) (f' := (24, [some (.ref 1), some (.int x1), some (.int x2)], [])) rfl (tX7_isBoard (d + 33) x1 (fX3_clear I) J 3 sp rr w nw (Or.inl rfl) _ rfl) (fun v h hq => ?_)
        obtain ⟨rfl, rfl⟩ := hq
        refine mm_T.br (c := (fX7_isBoard x1 (fX3_clear I) 3) = 0) (a := ((38, [some (.ref 1), some (.int x1), some (.int x2)], []), (107, (fX3_clear I), J, mm_rf 3 sp rr w nw))) (b := ((27, [some (.ref 1), some (.int x1), some (.int x2)], []), (107, (fX3_clear I), J, mm_rf 3 sp rr w nw))) rfl (fun h2337 => ?_) (fun h2337 => ?_)
        · rw [if_pos h2337] at e
          refine mm_T.mask [false, false, false] ?_
          exact tbX11_coolest_J38 d (fX3_clear I) J 3 sp rr w nw out e
        · rw [if_neg h2337] at e
          refine mm_T.seg (f' := (32, [some (.ref 1), some (.int x1), some (.int x2)], [(.int x1), (.ref 42)])) (h' := (107, (fX3_clear I), J, mm_rf 3 sp rr w nw)) 3 rfl ?_
          obtain ⟨o2338, eo2338, e⟩ := mm_bind e
          refine mm_T.call (t := 126) (as := [(.ref 42), (.int x1)]) (f' := (35, [some (.ref 1), some (.int x1), some (.int x2)], [])) rfl (tX8_findCoolest (d + 0) n x1 (fX3_clear I) J 3 sp rr w nw (Or.inl rfl) o2338 eo2338) (fun v h hq => ?_)
          obtain ⟨rfl, rfl⟩ := hq
          refine mm_T.br (c := o2338.1 = 0) (a := ((38, [some (.ref 1), some (.int x1), some (.int x2)], []), (107, o2338.2, J, mm_rf 3 sp rr w nw))) (b := ((40, [some (.ref 1), some (.int x1), some (.int x2)], []), (107, o2338.2, J, mm_rf 3 sp rr w nw))) rfl (fun h2339 => ?_) (fun h2339 => ?_)
          · rw [if_pos h2339] at e
            refine mm_T.mask [false, false, false] ?_
            exact tbX11_coolest_J38 d o2338.2 J 3 sp rr w nw out e
          · rw [if_neg h2339] at e
            refine mm_T.seg (f' := (56, [some (.ref 1), some (.int x1), some (.int x2)], [(.int x1), (.ref 18), (.ref 44), (.ref 35)])) (h' := (107, o2338.2, J, mm_rf 3 sp rr w nw)) 8 rfl ?_
            refine mm_T.call (t := 111) (as := [(.ref 18), (.int x1)]) (f' := (59, [some (.ref 1), some (.int x1), some (.int x2)], [(.ref 44), (.ref 35)])) rfl (tX7_strokesLeft (d + 30) x1 o2338.2 J 3 sp rr w nw (Or.inl rfl) _ rfl) (fun v h hq => ?_)
            obtain ⟨rfl, rfl⟩ := hq
            obtain ⟨o2345, eo2345, e⟩ := mm_bind e
            refine mm_T.call (t := 25) (as := [(.ref 35), (.ref 44), (.int (fX7_strokesLeft x1 o2338.2 3))]) (f' := (62, [some (.ref 1), some (.int x1), some (.int x2)], [])) rfl (tX3_addAll_44 (d + 32) n (fX7_strokesLeft x1 o2338.2 3) o2338.2 J 3 sp rr w nw o2345 eo2345) (fun v h hq => ?_)
            obtain ⟨rfl, rfl⟩ := hq
            refine mm_T.seg (f' := (63, [some (.ref 1), some (.int x1), some (.int x2)], [(.int x2)])) (h' := (107, o2345, J, mm_rf 3 sp rr w nw)) 1 rfl ?_
            by_cases h2346 : x2 = 0
            · rw [if_pos h2346] at e
              refine mm_T.step (f' := (88, [some (.ref 1), some (.int x1), some (.int x2)], [])) (h' := (107, o2345, J, mm_rf 3 sp rr w nw)) (by first | (rw [h2346]; rfl) | exact absurd h2346 (by decide)) ?_
              refine mm_T.seg (f' := (95, [some (.ref 1), some (.int x1), some (.int x2)], [(.int (o2345 42 6))])) (h' := (107, o2345, J, mm_rf 3 sp rr w nw)) 3 rfl ?_
              cases e
              exact mm_T.ret rfl ⟨rfl, rfl⟩
            · rw [if_neg h2346] at e
              by_cases h2347 : x2 = 1
              · rw [if_pos h2347] at e
                refine mm_T.step (f' := (96, [some (.ref 1), some (.int x1), some (.int x2)], [])) (h' := (107, o2345, J, mm_rf 3 sp rr w nw)) (by first | (rw [h2347]; rfl) | exact absurd h2347 (by decide)) ?_
                refine mm_T.seg (f' := (103, [some (.ref 1), some (.int x1), some (.int x2)], [(.int (o2345 42 7))])) (h' := (107, o2345, J, mm_rf 3 sp rr w nw)) 3 rfl ?_
                cases e
                exact mm_T.ret rfl ⟨rfl, rfl⟩
              · rw [if_neg h2347] at e
                refine mm_T.step (f' := (104, [some (.ref 1), some (.int x1), some (.int x2)], [])) (h' := (107, o2345, J, mm_rf 3 sp rr w nw)) (by show mm_go (mm_tg 63 (Op.lookupswitch.offset [(0, 25), (1, 33)] 41 x2.toInt)) _ _ _ = _; rw [lv_osw (a := 0) h2346 (by decide), lv_osw (a := 1) h2347 (by decide)]; rfl) ?_
                refine mm_T.seg (f' := (111, [some (.ref 1), some (.int x1), some (.int x2)], [(.int (o2345 42 8))])) (h' := (107, o2345, J, mm_rf 3 sp rr w nw)) 3 rfl ?_
                cases e
                exact mm_T.ret rfl ⟨rfl, rfl⟩
  · unfold fX11_coolest at e
    refine mm_T.seg (f' := (4, [some (.ref 1), some (.int x1), some (.int x2)], [(.ref 35)])) (h' := (107, I, J, mm_rf 19 sp rr w nw)) 2 rfl ?_
    refine mm_T.call (t := 23) (as := [(.ref 35)]) (f' := (7, [some (.ref 1), some (.int x1), some (.int x2)], [])) rfl (tX3_clear (d + 33) I J 19 sp rr w nw _ rfl) (fun v h hq => ?_)
    obtain ⟨rfl, rfl⟩ := hq
    refine mm_T.seg (f' := (8, [some (.ref 1), some (.int x1), some (.int x2)], [(.int x2)])) (h' := (107, (fX3_clear I), J, mm_rf 19 sp rr w nw)) 1 rfl ?_
    refine mm_T.br (c := x2 < 0) (a := ((38, [some (.ref 1), some (.int x1), some (.int x2)], []), (107, (fX3_clear I), J, mm_rf 19 sp rr w nw))) (b := ((11, [some (.ref 1), some (.int x1), some (.int x2)], []), (107, (fX3_clear I), J, mm_rf 19 sp rr w nw))) rfl (fun h2335 => ?_) (fun h2335 => ?_)
    · rw [if_pos h2335] at e
      refine mm_T.mask [false, false, false] ?_
      exact tbX11_coolest_J38 d (fX3_clear I) J 19 sp rr w nw out e
    · rw [if_neg h2335] at e
      refine mm_T.seg (f' := (13, [some (.ref 1), some (.int x1), some (.int x2)], [(.int 2), (.int x2)])) (h' := (107, (fX3_clear I), J, mm_rf 19 sp rr w nw)) 2 rfl ?_
      refine mm_T.br (c := 2 < x2) (a := ((38, [some (.ref 1), some (.int x1), some (.int x2)], []), (107, (fX3_clear I), J, mm_rf 19 sp rr w nw))) (b := ((16, [some (.ref 1), some (.int x1), some (.int x2)], []), (107, (fX3_clear I), J, mm_rf 19 sp rr w nw))) rfl (fun h2336 => ?_) (fun h2336 => ?_)
      · rw [if_pos h2336] at e
        refine mm_T.mask [false, false, false] ?_
        exact tbX11_coolest_J38 d (fX3_clear I) J 19 sp rr w nw out e
      · rw [if_neg h2336] at e
        refine mm_T.seg (f' := (21, [some (.ref 1), some (.int x1), some (.int x2)], [(.int x1), (.ref 18)])) (h' := (107, (fX3_clear I), J, mm_rf 19 sp rr w nw)) 3 rfl ?_
        refine mm_T.call (t := 101) (as := [(.ref 18), (.int x1)]) (f' := (24, [some (.ref 1), some (.int x1), some (.int x2)], [])) rfl (tX7_isBoard (d + 33) x1 (fX3_clear I) J 19 sp rr w nw (Or.inr rfl) _ rfl) (fun v h hq => ?_)
        obtain ⟨rfl, rfl⟩ := hq
        refine mm_T.br (c := (fX7_isBoard x1 (fX3_clear I) 19) = 0) (a := ((38, [some (.ref 1), some (.int x1), some (.int x2)], []), (107, (fX3_clear I), J, mm_rf 19 sp rr w nw))) (b := ((27, [some (.ref 1), some (.int x1), some (.int x2)], []), (107, (fX3_clear I), J, mm_rf 19 sp rr w nw))) rfl (fun h2337 => ?_) (fun h2337 => ?_)
        · rw [if_pos h2337] at e
          refine mm_T.mask [false, false, false] ?_
          exact tbX11_coolest_J38 d (fX3_clear I) J 19 sp rr w nw out e
        · rw [if_neg h2337] at e
          refine mm_T.seg (f' := (32, [some (.ref 1), some (.int x1), some (.int x2)], [(.int x1), (.ref 42)])) (h' := (107, (fX3_clear I), J, mm_rf 19 sp rr w nw)) 3 rfl ?_
          obtain ⟨o2338, eo2338, e⟩ := mm_bind e
          refine mm_T.call (t := 126) (as := [(.ref 42), (.int x1)]) (f' := (35, [some (.ref 1), some (.int x1), some (.int x2)], [])) rfl (tX8_findCoolest (d + 0) n x1 (fX3_clear I) J 19 sp rr w nw (Or.inr rfl) o2338 eo2338) (fun v h hq => ?_)
          obtain ⟨rfl, rfl⟩ := hq
          refine mm_T.br (c := o2338.1 = 0) (a := ((38, [some (.ref 1), some (.int x1), some (.int x2)], []), (107, o2338.2, J, mm_rf 19 sp rr w nw))) (b := ((40, [some (.ref 1), some (.int x1), some (.int x2)], []), (107, o2338.2, J, mm_rf 19 sp rr w nw))) rfl (fun h2339 => ?_) (fun h2339 => ?_)
          · rw [if_pos h2339] at e
            refine mm_T.mask [false, false, false] ?_
            exact tbX11_coolest_J38 d o2338.2 J 19 sp rr w nw out e
          · rw [if_neg h2339] at e
            refine mm_T.seg (f' := (56, [some (.ref 1), some (.int x1), some (.int x2)], [(.int x1), (.ref 18), (.ref 44), (.ref 35)])) (h' := (107, o2338.2, J, mm_rf 19 sp rr w nw)) 8 rfl ?_
            refine mm_T.call (t := 111) (as := [(.ref 18), (.int x1)]) (f' := (59, [some (.ref 1), some (.int x1), some (.int x2)], [(.ref 44), (.ref 35)])) rfl (tX7_strokesLeft (d + 30) x1 o2338.2 J 19 sp rr w nw (Or.inr rfl) _ rfl) (fun v h hq => ?_)
            obtain ⟨rfl, rfl⟩ := hq
            obtain ⟨o2345, eo2345, e⟩ := mm_bind e
            refine mm_T.call (t := 25) (as := [(.ref 35), (.ref 44), (.int (fX7_strokesLeft x1 o2338.2 19))]) (f' := (62, [some (.ref 1), some (.int x1), some (.int x2)], [])) rfl (tX3_addAll_44 (d + 32) n (fX7_strokesLeft x1 o2338.2 19) o2338.2 J 19 sp rr w nw o2345 eo2345) (fun v h hq => ?_)
            obtain ⟨rfl, rfl⟩ := hq
            refine mm_T.seg (f' := (63, [some (.ref 1), some (.int x1), some (.int x2)], [(.int x2)])) (h' := (107, o2345, J, mm_rf 19 sp rr w nw)) 1 rfl ?_
            by_cases h2346 : x2 = 0
            · rw [if_pos h2346] at e
              refine mm_T.step (f' := (88, [some (.ref 1), some (.int x1), some (.int x2)], [])) (h' := (107, o2345, J, mm_rf 19 sp rr w nw)) (by first | (rw [h2346]; rfl) | exact absurd h2346 (by decide)) ?_
              refine mm_T.seg (f' := (95, [some (.ref 1), some (.int x1), some (.int x2)], [(.int (o2345 42 6))])) (h' := (107, o2345, J, mm_rf 19 sp rr w nw)) 3 rfl ?_
              cases e
              exact mm_T.ret rfl ⟨rfl, rfl⟩
            · rw [if_neg h2346] at e
              by_cases h2347 : x2 = 1
              · rw [if_pos h2347] at e
                refine mm_T.step (f' := (96, [some (.ref 1), some (.int x1), some (.int x2)], [])) (h' := (107, o2345, J, mm_rf 19 sp rr w nw)) (by first | (rw [h2347]; rfl) | exact absurd h2347 (by decide)) ?_
                refine mm_T.seg (f' := (103, [some (.ref 1), some (.int x1), some (.int x2)], [(.int (o2345 42 7))])) (h' := (107, o2345, J, mm_rf 19 sp rr w nw)) 3 rfl ?_
                cases e
                exact mm_T.ret rfl ⟨rfl, rfl⟩
              · rw [if_neg h2347] at e
                refine mm_T.step (f' := (104, [some (.ref 1), some (.int x1), some (.int x2)], [])) (h' := (107, o2345, J, mm_rf 19 sp rr w nw)) (by show mm_go (mm_tg 63 (Op.lookupswitch.offset [(0, 25), (1, 33)] 41 x2.toInt)) _ _ _ = _; rw [lv_osw (a := 0) h2346 (by decide), lv_osw (a := 1) h2347 (by decide)]; rfl) ?_
                refine mm_T.seg (f' := (111, [some (.ref 1), some (.int x1), some (.int x2)], [(.int (o2345 42 8))])) (h' := (107, o2345, J, mm_rf 19 sp rr w nw)) 3 rfl ?_
                cases e
                exact mm_T.ret rfl ⟨rfl, rfl⟩
set_option maxRecDepth 100000 in
set_option maxHeartbeats 4000000 in
theorem tlX3_addAll_41_L2 (d : Nat) (Q : Option Value → mm_H → Prop) : ∀ (n : Nat) (y2 : Int32) (y3 : Int32) (I : Nat → Nat → Int32) (J : Nat → Nat → Int64) (rv sp rr w nw : Nat), ∀ (out : (Nat → Nat → Int32)), fX3_addAll_41_L2 n y2 y3 I = some out → mm_T none (d + 1) 25 (26, [none, none, none, none], []) (107, out, J, mm_rf rv sp rr w nw) Q → mm_T none (d + 1) 25 (2, [some (.ref 35), some (.ref 41), some (.int y2), some (.int y3)], []) (107, I, J, mm_rf rv sp rr w nw) Q := by
  intro n
  induction n with
  | zero =>
    intro y2 y3 I J rv sp rr w nw out e k
    rw [fX3_addAll_41_L2] at e; cases e
  | succ n ih =>
    intro y2 y3 I J rv sp rr w nw out e k
    rw [fX3_addAll_41_L2] at e
    refine mm_T.seg (f' := (4, [some (.ref 35), some (.ref 41), some (.int y2), some (.int y3)], [(.int y2), (.int y3)])) (h' := (107, I, J, mm_rf rv sp rr w nw)) 2 rfl ?_
    refine mm_T.br (c := y3 < y2) (a := ((7, [some (.ref 35), some (.ref 41), some (.int y2), some (.int y3)], []), (107, I, J, mm_rf rv sp rr w nw))) (b := ((26, [some (.ref 35), some (.ref 41), some (.int y2), some (.int y3)], []), (107, I, J, mm_rf rv sp rr w nw))) rfl (fun h2353 => ?_) (fun h2353 => ?_)
    · rw [if_pos h2353] at e
      refine mm_T.seg (f' := (10, [some (.ref 35), some (.ref 41), some (.int y2), some (.int y3)], [(.int 6), (.int y3)])) (h' := (107, I, J, mm_rf rv sp rr w nw)) 3 rfl ?_
      refine mm_T.br (c := y3 < 6) (a := ((13, [some (.ref 35), some (.ref 41), some (.int y2), some (.int y3)], []), (107, I, J, mm_rf rv sp rr w nw))) (b := ((26, [some (.ref 35), some (.ref 41), some (.int y2), some (.int y3)], []), (107, I, J, mm_rf rv sp rr w nw))) rfl (fun h2354 => ?_) (fun h2354 => ?_)
      · rw [if_pos h2354] at e
        refine mm_T.seg (f' := (16, [some (.ref 35), some (.ref 41), some (.int y2), some (.int y3)], [(.int y3), (.ref 41), (.ref 35)])) (h' := (107, I, J, mm_rf rv sp rr w nw)) 3 rfl ?_
        by_cases h2355 : y3 < 0 ∨ 6 ≤ y3.toNatClampNeg
        · rw [if_pos h2355] at e; cases e
        rw [if_neg h2355] at e
        refine mm_T.guard (y := ((17, [some (.ref 35), some (.ref 41), some (.int y2), some (.int y3)], [(.int (I 41 y3.toNatClampNeg)), (.ref 35)]), (107, I, J, mm_rf rv sp rr w nw))) rfl h2355 ?_
        obtain ⟨o2356, eo2356, e⟩ := mm_bind e
        refine mm_T.call (t := 24) (as := [(.ref 35), (.int (I 41 y3.toNatClampNeg))]) (f' := (20, [some (.ref 35), some (.ref 41), some (.int y2), some (.int y3)], [])) rfl (tX3_add (d + 0) (I 41 y3.toNatClampNeg) I J rv sp rr w nw o2356 eo2356) (fun v h hq => ?_)
        obtain ⟨rfl, rfl⟩ := hq
        refine mm_T.seg (f' := (2, [some (.ref 35), some (.ref 41), some (.int y2), some (.int (y3 + 1))], [])) (h' := (107, o2356, J, mm_rf rv sp rr w nw)) 2 rfl ?_
        refine mm_T.mask [true, true, true, true] ?_
        exact ih y2 (y3 + 1) o2356 J rv sp rr w nw out e k
      · rw [if_neg h2354] at e
        cases e
        refine mm_T.mask [false, false, false, false] ?_
        exact k
    · rw [if_neg h2353] at e
      cases e
      refine mm_T.mask [false, false, false, false] ?_
      exact k
set_option maxRecDepth 100000 in
set_option maxHeartbeats 4000000 in
theorem tX3_addAll_41 (d n : Nat) (x2 : Int32) (I : Nat → Nat → Int32) (J : Nat → Nat → Int64) (rv sp rr w nw : Nat) (out : (Nat → Nat → Int32)) (e : fX3_addAll_41 n x2 I = some out) : mm_T none (d + 1) 25 (mm_ent 25 [(.ref 35), (.ref 41), (.int x2)]) (107, I, J, mm_rf rv sp rr w nw) (fun v h => v = none ∧ h = (107, out, J, mm_rf rv sp rr w nw)) := by
  unfold fX3_addAll_41 at e
  refine mm_T.seg (f' := (2, [some (.ref 35), some (.ref 41), some (.int x2), some (.int 0)], [])) (h' := (107, I, J, mm_rf rv sp rr w nw)) 2 rfl ?_
  refine mm_T.mask [true, true, true, true] ?_
  obtain ⟨o2357, eo2357, e⟩ := mm_bind e
  refine tlX3_addAll_41_L2 d _ n x2 0 I J rv sp rr w nw o2357 eo2357 ?_
  cases e
  exact mm_T.ret rfl ⟨rfl, rfl⟩
set_option maxRecDepth 100000 in
set_option maxHeartbeats 4000000 in
theorem tbX11_straight_J36 (d : Nat) (I : Nat → Nat → Int32) (J : Nat → Nat → Int64) (rv sp rr w nw : Nat) (out : Int32 × (Nat → Nat → Int32)) (e : fX11_straight_J36 I = some out) : mm_T none (d + 5) 179 (36, [none, none, none, none], []) (107, I, J, mm_rf rv sp rr w nw) (fun v h => v = some (.int out.1) ∧ h = (107, out.2, J, mm_rf rv sp rr w nw)) := by
  unfold fX11_straight_J36 at e
  refine mm_T.seg (f' := (37, [none, none, none, none], [(.int (-1))])) (h' := (107, I, J, mm_rf rv sp rr w nw)) 1 rfl ?_
  cases e
  exact mm_T.ret rfl ⟨rfl, rfl⟩
set_option maxRecDepth 100000 in
set_option maxHeartbeats 4000000 in
theorem tX11_straight (d n : Nat) (x1 : Int32) (x2 : Int32) (I : Nat → Nat → Int32) (J : Nat → Nat → Int64) (rv sp rr w nw : Nat) (hrv : rv = 3 ∨ rv = 19) (out : Int32 × (Nat → Nat → Int32)) (e : fX11_straight n x1 x2 I rv = some out) : mm_T none (d + 5) 179 (mm_ent 179 [(.ref 1), (.int x1), (.int x2)]) (107, I, J, mm_rf rv sp rr w nw) (fun v h => v = some (.int out.1) ∧ h = (107, out.2, J, mm_rf rv sp rr w nw)) := by
  rcases hrv with rfl | rfl
  · unfold fX11_straight at e
    refine mm_T.seg (f' := (4, [some (.ref 1), some (.int x1), some (.int x2), none], [(.ref 35)])) (h' := (107, I, J, mm_rf 3 sp rr w nw)) 2 rfl ?_
    refine mm_T.call (t := 23) (as := [(.ref 35)]) (f' := (7, [some (.ref 1), some (.int x1), some (.int x2), none], [])) rfl (tX3_clear (d + 4) I J 3 sp rr w nw _ rfl) (fun v h hq => ?_)
    obtain ⟨rfl, rfl⟩ := hq
    refine mm_T.seg (f' := (12, [some (.ref 1), some (.int x1), some (.int x2), none], [(.int x1), (.ref 18)])) (h' := (107, (fX3_clear I), J, mm_rf 3 sp rr w nw)) 3 rfl ?_
    refine mm_T.call (t := 101) (as := [(.ref 18), (.int x1)]) (f' := (15, [some (.ref 1), some (.int x1), some (.int x2), none], [])) rfl (tX7_isBoard (d + 4) x1 (fX3_clear I) J 3 sp rr w nw (Or.inl rfl) _ rfl) (fun v h hq => ?_)
    obtain ⟨rfl, rfl⟩ := hq
    refine mm_T.br (c := (fX7_isBoard x1 (fX3_clear I) 3) = 0) (a := ((36, [some (.ref 1), some (.int x1), some (.int x2), none], []), (107, (fX3_clear I), J, mm_rf 3 sp rr w nw))) (b := ((18, [some (.ref 1), some (.int x1), some (.int x2), none], []), (107, (fX3_clear I), J, mm_rf 3 sp rr w nw))) rfl (fun h2348 => ?_) (fun h2348 => ?_)
    · rw [if_pos h2348] at e
      refine mm_T.mask [false, false, false, false] ?_
      exact tbX11_straight_J36 d (fX3_clear I) J 3 sp rr w nw out e
    · rw [if_neg h2348] at e
      refine mm_T.seg (f' := (19, [some (.ref 1), some (.int x1), some (.int x2), none], [(.int x2)])) (h' := (107, (fX3_clear I), J, mm_rf 3 sp rr w nw)) 1 rfl ?_
      refine mm_T.br (c := x2 < 0) (a := ((36, [some (.ref 1), some (.int x1), some (.int x2), none], []), (107, (fX3_clear I), J, mm_rf 3 sp rr w nw))) (b := ((22, [some (.ref 1), some (.int x1), some (.int x2), none], []), (107, (fX3_clear I), J, mm_rf 3 sp rr w nw))) rfl (fun h2349 => ?_) (fun h2349 => ?_)
      · rw [if_pos h2349] at e
        refine mm_T.mask [false, false, false, false] ?_
        exact tbX11_straight_J36 d (fX3_clear I) J 3 sp rr w nw out e
      · rw [if_neg h2349] at e
        refine mm_T.seg (f' := (33, [some (.ref 1), some (.int x1), some (.int x2), none], [(.int ((fX3_clear I) 3 0)), (.int x2)])) (h' := (107, (fX3_clear I), J, mm_rf 3 sp rr w nw)) 5 rfl ?_
        refine mm_T.br (c := x2 < ((fX3_clear I) 3 0)) (a := ((38, [some (.ref 1), some (.int x1), some (.int x2), none], []), (107, (fX3_clear I), J, mm_rf 3 sp rr w nw))) (b := ((36, [some (.ref 1), some (.int x1), some (.int x2), none], []), (107, (fX3_clear I), J, mm_rf 3 sp rr w nw))) rfl (fun h2350 => ?_) (fun h2350 => ?_)
        · rw [if_pos h2350] at e
          refine mm_T.seg (f' := (44, [some (.ref 1), some (.int x1), some (.int x2), none], [(.int x2), (.int x1), (.ref 37)])) (h' := (107, (fX3_clear I), J, mm_rf 3 sp rr w nw)) 4 rfl ?_
          obtain ⟨o2351, eo2351, e⟩ := mm_bind e
          refine mm_T.call (t := 90) (as := [(.ref 37), (.int x1), (.int x2)]) (f' := (47, [some (.ref 1), some (.int x1), some (.int x2), none], [])) rfl (tX6_findStraightest (d + 0) n x1 x2 (fX3_clear I) J 3 sp rr w nw (Or.inl rfl) o2351 eo2351) (fun v h hq => ?_)
          obtain ⟨rfl, rfl⟩ := hq
          refine mm_T.seg (f' := (50, [some (.ref 1), some (.int x1), some (.int x2), some (.int o2351.1)], [(.int (-1)), (.int o2351.1)])) (h' := (107, o2351.2, J, mm_rf 3 sp rr w nw)) 3 rfl ?_
          refine mm_T.br (c := o2351.1 = (-1)) (a := ((75, [some (.ref 1), some (.int x1), some (.int x2), some (.int o2351.1)], []), (107, o2351.2, J, mm_rf 3 sp rr w nw))) (b := ((53, [some (.ref 1), some (.int x1), some (.int x2), some (.int o2351.1)], []), (107, o2351.2, J, mm_rf 3 sp rr w nw))) rfl (fun h2352 => ?_) (fun h2352 => ?_)
          · rw [if_pos h2352] at e
            refine mm_T.seg (f' := (76, [some (.ref 1), some (.int x1), some (.int x2), some (.int o2351.1)], [(.int o2351.1)])) (h' := (107, o2351.2, J, mm_rf 3 sp rr w nw)) 1 rfl ?_
            cases e
            exact mm_T.ret rfl ⟨rfl, rfl⟩
          · rw [if_neg h2352] at e
            refine mm_T.seg (f' := (69, [some (.ref 1), some (.int x1), some (.int x2), some (.int o2351.1)], [(.int x1), (.ref 18), (.ref 41), (.ref 35)])) (h' := (107, o2351.2, J, mm_rf 3 sp rr w nw)) 8 rfl ?_
            refine mm_T.call (t := 111) (as := [(.ref 18), (.int x1)]) (f' := (72, [some (.ref 1), some (.int x1), some (.int x2), some (.int o2351.1)], [(.ref 41), (.ref 35)])) rfl (tX7_strokesLeft (d + 1) x1 o2351.2 J 3 sp rr w nw (Or.inl rfl) _ rfl) (fun v h hq => ?_)
            obtain ⟨rfl, rfl⟩ := hq
            obtain ⟨o2358, eo2358, e⟩ := mm_bind e
            refine mm_T.call (t := 25) (as := [(.ref 35), (.ref 41), (.int (fX7_strokesLeft x1 o2351.2 3))]) (f' := (75, [some (.ref 1), some (.int x1), some (.int x2), some (.int o2351.1)], [])) rfl (tX3_addAll_41 (d + 3) n (fX7_strokesLeft x1 o2351.2 3) o2351.2 J 3 sp rr w nw o2358 eo2358) (fun v h hq => ?_)
            obtain ⟨rfl, rfl⟩ := hq
            refine mm_T.seg (f' := (76, [some (.ref 1), some (.int x1), some (.int x2), some (.int o2351.1)], [(.int o2351.1)])) (h' := (107, o2358, J, mm_rf 3 sp rr w nw)) 1 rfl ?_
            cases e
            exact mm_T.ret rfl ⟨rfl, rfl⟩
        · rw [if_neg h2350] at e
          refine mm_T.mask [false, false, false, false] ?_
          exact tbX11_straight_J36 d (fX3_clear I) J 3 sp rr w nw out e
  · unfold fX11_straight at e
    refine mm_T.seg (f' := (4, [some (.ref 1), some (.int x1), some (.int x2), none], [(.ref 35)])) (h' := (107, I, J, mm_rf 19 sp rr w nw)) 2 rfl ?_
    refine mm_T.call (t := 23) (as := [(.ref 35)]) (f' := (7, [some (.ref 1), some (.int x1), some (.int x2), none], [])) rfl (tX3_clear (d + 4) I J 19 sp rr w nw _ rfl) (fun v h hq => ?_)
    obtain ⟨rfl, rfl⟩ := hq
    refine mm_T.seg (f' := (12, [some (.ref 1), some (.int x1), some (.int x2), none], [(.int x1), (.ref 18)])) (h' := (107, (fX3_clear I), J, mm_rf 19 sp rr w nw)) 3 rfl ?_
    refine mm_T.call (t := 101) (as := [(.ref 18), (.int x1)]) (f' := (15, [some (.ref 1), some (.int x1), some (.int x2), none], [])) rfl (tX7_isBoard (d + 4) x1 (fX3_clear I) J 19 sp rr w nw (Or.inr rfl) _ rfl) (fun v h hq => ?_)
    obtain ⟨rfl, rfl⟩ := hq
    refine mm_T.br (c := (fX7_isBoard x1 (fX3_clear I) 19) = 0) (a := ((36, [some (.ref 1), some (.int x1), some (.int x2), none], []), (107, (fX3_clear I), J, mm_rf 19 sp rr w nw))) (b := ((18, [some (.ref 1), some (.int x1), some (.int x2), none], []), (107, (fX3_clear I), J, mm_rf 19 sp rr w nw))) rfl (fun h2348 => ?_) (fun h2348 => ?_)
    · rw [if_pos h2348] at e
      refine mm_T.mask [false, false, false, false] ?_
      exact tbX11_straight_J36 d (fX3_clear I) J 19 sp rr w nw out e
    · rw [if_neg h2348] at e
      refine mm_T.seg (f' := (19, [some (.ref 1), some (.int x1), some (.int x2), none], [(.int x2)])) (h' := (107, (fX3_clear I), J, mm_rf 19 sp rr w nw)) 1 rfl ?_
      refine mm_T.br (c := x2 < 0) (a := ((36, [some (.ref 1), some (.int x1), some (.int x2), none], []), (107, (fX3_clear I), J, mm_rf 19 sp rr w nw))) (b := ((22, [some (.ref 1), some (.int x1), some (.int x2), none], []), (107, (fX3_clear I), J, mm_rf 19 sp rr w nw))) rfl (fun h2349 => ?_) (fun h2349 => ?_)
      · rw [if_pos h2349] at e
        refine mm_T.mask [false, false, false, false] ?_
        exact tbX11_straight_J36 d (fX3_clear I) J 19 sp rr w nw out e
      · rw [if_neg h2349] at e
        refine mm_T.seg (f' := (33, [some (.ref 1), some (.int x1), some (.int x2), none], [(.int ((fX3_clear I) 19 0)), (.int x2)])) (h' := (107, (fX3_clear I), J, mm_rf 19 sp rr w nw)) 5 rfl ?_
        refine mm_T.br (c := x2 < ((fX3_clear I) 19 0)) (a := ((38, [some (.ref 1), some (.int x1), some (.int x2), none], []), (107, (fX3_clear I), J, mm_rf 19 sp rr w nw))) (b := ((36, [some (.ref 1), some (.int x1), some (.int x2), none], []), (107, (fX3_clear I), J, mm_rf 19 sp rr w nw))) rfl (fun h2350 => ?_) (fun h2350 => ?_)
        · rw [if_pos h2350] at e
          refine mm_T.seg (f' := (44, [some (.ref 1), some (.int x1), some (.int x2), none], [(.int x2), (.int x1), (.ref 37)])) (h' := (107, (fX3_clear I), J, mm_rf 19 sp rr w nw)) 4 rfl ?_
          obtain ⟨o2351, eo2351, e⟩ := mm_bind e
          refine mm_T.call (t := 90) (as := [(.ref 37), (.int x1), (.int x2)]) (f' := (47, [some (.ref 1), some (.int x1), some (.int x2), none], [])) rfl (tX6_findStraightest (d + 0) n x1 x2 (fX3_clear I) J 19 sp rr w nw (Or.inr rfl) o2351 eo2351) (fun v h hq => ?_)
          obtain ⟨rfl, rfl⟩ := hq
          refine mm_T.seg (f' := (50, [some (.ref 1), some (.int x1), some (.int x2), some (.int o2351.1)], [(.int (-1)), (.int o2351.1)])) (h' := (107, o2351.2, J, mm_rf 19 sp rr w nw)) 3 rfl ?_
          refine mm_T.br (c := o2351.1 = (-1)) (a := ((75, [some (.ref 1), some (.int x1), some (.int x2), some (.int o2351.1)], []), (107, o2351.2, J, mm_rf 19 sp rr w nw))) (b := ((53, [some (.ref 1), some (.int x1), some (.int x2), some (.int o2351.1)], []), (107, o2351.2, J, mm_rf 19 sp rr w nw))) rfl (fun h2352 => ?_) (fun h2352 => ?_)
          · rw [if_pos h2352] at e
            refine mm_T.seg (f' := (76, [some (.ref 1), some (.int x1), some (.int x2), some (.int o2351.1)], [(.int o2351.1)])) (h' := (107, o2351.2, J, mm_rf 19 sp rr w nw)) 1 rfl ?_
            cases e
            exact mm_T.ret rfl ⟨rfl, rfl⟩
          · rw [if_neg h2352] at e
            refine mm_T.seg (f' := (69, [some (.ref 1), some (.int x1), some (.int x2), some (.int o2351.1)], [(.int x1), (.ref 18), (.ref 41), (.ref 35)])) (h' := (107, o2351.2, J, mm_rf 19 sp rr w nw)) 8 rfl ?_
            refine mm_T.call (t := 111) (as := [(.ref 18), (.int x1)]) (f' := (72, [some (.ref 1), some (.int x1), some (.int x2), some (.int o2351.1)], [(.ref 41), (.ref 35)])) rfl (tX7_strokesLeft (d + 1) x1 o2351.2 J 19 sp rr w nw (Or.inr rfl) _ rfl) (fun v h hq => ?_)
            obtain ⟨rfl, rfl⟩ := hq
            obtain ⟨o2358, eo2358, e⟩ := mm_bind e
            refine mm_T.call (t := 25) (as := [(.ref 35), (.ref 41), (.int (fX7_strokesLeft x1 o2351.2 19))]) (f' := (75, [some (.ref 1), some (.int x1), some (.int x2), some (.int o2351.1)], [])) rfl (tX3_addAll_41 (d + 3) n (fX7_strokesLeft x1 o2351.2 19) o2351.2 J 19 sp rr w nw o2358 eo2358) (fun v h hq => ?_)
            obtain ⟨rfl, rfl⟩ := hq
            refine mm_T.seg (f' := (76, [some (.ref 1), some (.int x1), some (.int x2), some (.int o2351.1)], [(.int o2351.1)])) (h' := (107, o2358, J, mm_rf 19 sp rr w nw)) 1 rfl ?_
            cases e
            exact mm_T.ret rfl ⟨rfl, rfl⟩
        · rw [if_neg h2350] at e
          refine mm_T.mask [false, false, false, false] ?_
          exact tbX11_straight_J36 d (fX3_clear I) J 19 sp rr w nw out e
set_option maxRecDepth 100000 in
set_option maxHeartbeats 4000000 in
theorem tX11_widest (d n : Nat) (x1 : Int32) (x2 : Int32) (I : Nat → Nat → Int32) (J : Nat → Nat → Int64) (rv sp rr w nw : Nat) (hrv : rv = 3 ∨ rv = 19) (out : Int32) (e : fX11_widest n x1 x2 I rv = some out) : mm_T none (d + 5) 180 (mm_ent 180 [(.ref 1), (.int x1), (.int x2)]) (107, I, J, mm_rf rv sp rr w nw) (fun v h => v = some (.int out) ∧ h = (107, I, J, mm_rf rv sp rr w nw)) := by
  rcases hrv with rfl | rfl
  · unfold fX11_widest at e
    refine mm_T.seg (f' := (1, [some (.ref 1), some (.int x1), some (.int x2), none], [(.int x2)])) (h' := (107, I, J, mm_rf 3 sp rr w nw)) 1 rfl ?_
    refine mm_T.br (c := x2 < 0) (a := ((31, [some (.ref 1), some (.int x1), some (.int x2), none], []), (107, I, J, mm_rf 3 sp rr w nw))) (b := ((4, [some (.ref 1), some (.int x1), some (.int x2), none], []), (107, I, J, mm_rf 3 sp rr w nw))) rfl (fun h2359 => ?_) (fun h2359 => ?_)
    · rw [if_pos h2359] at e
      refine mm_T.seg (f' := (32, [some (.ref 1), some (.int x1), some (.int x2), none], [(.int (-1))])) (h' := (107, I, J, mm_rf 3 sp rr w nw)) 1 rfl ?_
      cases e
      exact mm_T.ret rfl ⟨rfl, rfl⟩
    · rw [if_neg h2359] at e
      refine mm_T.seg (f' := (6, [some (.ref 1), some (.int x1), some (.int x2), none], [(.int 1), (.int x2)])) (h' := (107, I, J, mm_rf 3 sp rr w nw)) 2 rfl ?_
      refine mm_T.br (c := 1 < x2) (a := ((31, [some (.ref 1), some (.int x1), some (.int x2), none], []), (107, I, J, mm_rf 3 sp rr w nw))) (b := ((9, [some (.ref 1), some (.int x1), some (.int x2), none], []), (107, I, J, mm_rf 3 sp rr w nw))) rfl (fun h2360 => ?_) (fun h2360 => ?_)
      · rw [if_pos h2360] at e
        refine mm_T.seg (f' := (32, [some (.ref 1), some (.int x1), some (.int x2), none], [(.int (-1))])) (h' := (107, I, J, mm_rf 3 sp rr w nw)) 1 rfl ?_
        cases e
        exact mm_T.ret rfl ⟨rfl, rfl⟩
      · rw [if_neg h2360] at e
        refine mm_T.seg (f' := (14, [some (.ref 1), some (.int x1), some (.int x2), none], [(.int x1), (.ref 18)])) (h' := (107, I, J, mm_rf 3 sp rr w nw)) 3 rfl ?_
        refine mm_T.call (t := 101) (as := [(.ref 18), (.int x1)]) (f' := (17, [some (.ref 1), some (.int x1), some (.int x2), none], [])) rfl (tX7_isBoard (d + 4) x1 I J 3 sp rr w nw (Or.inl rfl) _ rfl) (fun v h hq => ?_)
        obtain ⟨rfl, rfl⟩ := hq
        refine mm_T.br (c := (fX7_isBoard x1 I 3) = 0) (a := ((31, [some (.ref 1), some (.int x1), some (.int x2), none], []), (107, I, J, mm_rf 3 sp rr w nw))) (b := ((20, [some (.ref 1), some (.int x1), some (.int x2), none], []), (107, I, J, mm_rf 3 sp rr w nw))) rfl (fun h2361 => ?_) (fun h2361 => ?_)
        · rw [if_pos h2361] at e
          refine mm_T.seg (f' := (32, [some (.ref 1), some (.int x1), some (.int x2), none], [(.int (-1))])) (h' := (107, I, J, mm_rf 3 sp rr w nw)) 1 rfl ?_
          cases e
          exact mm_T.ret rfl ⟨rfl, rfl⟩
        · rw [if_neg h2361] at e
          refine mm_T.seg (f' := (25, [some (.ref 1), some (.int x1), some (.int x2), none], [(.int x1), (.ref 18)])) (h' := (107, I, J, mm_rf 3 sp rr w nw)) 3 rfl ?_
          refine mm_T.call (t := 119) (as := [(.ref 18), (.int x1)]) (f' := (28, [some (.ref 1), some (.int x1), some (.int x2), none], [])) rfl (tX7_isAtBank (d + 1) x1 I J 3 sp rr w nw (Or.inl rfl) _ rfl) (fun v h hq => ?_)
          obtain ⟨rfl, rfl⟩ := hq
          refine mm_T.br (c := (fX7_isAtBank x1 I 3) = 0) (a := ((31, [some (.ref 1), some (.int x1), some (.int x2), none], []), (107, I, J, mm_rf 3 sp rr w nw))) (b := ((33, [some (.ref 1), some (.int x1), some (.int x2), none], []), (107, I, J, mm_rf 3 sp rr w nw))) rfl (fun h2362 => ?_) (fun h2362 => ?_)
          · rw [if_pos h2362] at e
            refine mm_T.seg (f' := (32, [some (.ref 1), some (.int x1), some (.int x2), none], [(.int (-1))])) (h' := (107, I, J, mm_rf 3 sp rr w nw)) 1 rfl ?_
            cases e
            exact mm_T.ret rfl ⟨rfl, rfl⟩
          · rw [if_neg h2362] at e
            refine mm_T.seg (f' := (38, [some (.ref 1), some (.int x1), some (.int x2), none], [(.int x1), (.ref 45)])) (h' := (107, I, J, mm_rf 3 sp rr w nw)) 3 rfl ?_
            obtain ⟨o2363, eo2363, e⟩ := mm_bind e
            refine mm_T.call (t := 132) (as := [(.ref 45), (.int x1)]) (f' := (41, [some (.ref 1), some (.int x1), some (.int x2), none], [])) rfl (tX9_widestSet (d + 0) n x1 I J 3 sp rr w nw (Or.inl rfl) o2363 eo2363) (fun v h hq => ?_)
            obtain ⟨rfl, rfl⟩ := hq
            refine mm_T.seg (f' := (43, [some (.ref 1), some (.int x1), some (.int x2), some (.int o2363)], [(.int x2)])) (h' := (107, I, J, mm_rf 3 sp rr w nw)) 2 rfl ?_
            refine mm_T.br (c := x2 = 0) (a := ((46, [some (.ref 1), some (.int x1), some (.int x2), some (.int o2363)], []), (107, I, J, mm_rf 3 sp rr w nw))) (b := ((57, [some (.ref 1), some (.int x1), some (.int x2), some (.int o2363)], []), (107, I, J, mm_rf 3 sp rr w nw))) rfl (fun h2364 => ?_) (fun h2364 => ?_)
            · rw [if_pos h2364] at e
              refine mm_T.seg (f' := (51, [some (.ref 1), some (.int x1), some (.int x2), some (.int o2363)], [(.int o2363), (.ref 45)])) (h' := (107, I, J, mm_rf 3 sp rr w nw)) 3 rfl ?_
              obtain ⟨o2365, eo2365, e⟩ := mm_bind e
              refine mm_T.call (t := 131) (as := [(.ref 45), (.int o2363)]) (f' := (54, [some (.ref 1), some (.int x1), some (.int x2), some (.int o2363)], [])) rfl (tX9_widthOf (d + 2) n o2363 I J 3 sp rr w nw (Or.inl rfl) o2365 eo2365) (fun v h hq => ?_)
              obtain ⟨rfl, rfl⟩ := hq
              refine mm_T.seg (f' := (58, [some (.ref 1), some (.int x1), some (.int x2), some (.int o2363)], [(.int o2365)])) (h' := (107, I, J, mm_rf 3 sp rr w nw)) 1 rfl ?_
              cases e
              exact mm_T.ret rfl ⟨rfl, rfl⟩
            · rw [if_neg h2364] at e
              refine mm_T.seg (f' := (58, [some (.ref 1), some (.int x1), some (.int x2), some (.int o2363)], [(.int o2363)])) (h' := (107, I, J, mm_rf 3 sp rr w nw)) 1 rfl ?_
              cases e
              exact mm_T.ret rfl ⟨rfl, rfl⟩
  · unfold fX11_widest at e
    refine mm_T.seg (f' := (1, [some (.ref 1), some (.int x1), some (.int x2), none], [(.int x2)])) (h' := (107, I, J, mm_rf 19 sp rr w nw)) 1 rfl ?_
    refine mm_T.br (c := x2 < 0) (a := ((31, [some (.ref 1), some (.int x1), some (.int x2), none], []), (107, I, J, mm_rf 19 sp rr w nw))) (b := ((4, [some (.ref 1), some (.int x1), some (.int x2), none], []), (107, I, J, mm_rf 19 sp rr w nw))) rfl (fun h2359 => ?_) (fun h2359 => ?_)
    · rw [if_pos h2359] at e
      refine mm_T.seg (f' := (32, [some (.ref 1), some (.int x1), some (.int x2), none], [(.int (-1))])) (h' := (107, I, J, mm_rf 19 sp rr w nw)) 1 rfl ?_
      cases e
      exact mm_T.ret rfl ⟨rfl, rfl⟩
    · rw [if_neg h2359] at e
      refine mm_T.seg (f' := (6, [some (.ref 1), some (.int x1), some (.int x2), none], [(.int 1), (.int x2)])) (h' := (107, I, J, mm_rf 19 sp rr w nw)) 2 rfl ?_
      refine mm_T.br (c := 1 < x2) (a := ((31, [some (.ref 1), some (.int x1), some (.int x2), none], []), (107, I, J, mm_rf 19 sp rr w nw))) (b := ((9, [some (.ref 1), some (.int x1), some (.int x2), none], []), (107, I, J, mm_rf 19 sp rr w nw))) rfl (fun h2360 => ?_) (fun h2360 => ?_)
      · rw [if_pos h2360] at e
        refine mm_T.seg (f' := (32, [some (.ref 1), some (.int x1), some (.int x2), none], [(.int (-1))])) (h' := (107, I, J, mm_rf 19 sp rr w nw)) 1 rfl ?_
        cases e
        exact mm_T.ret rfl ⟨rfl, rfl⟩
      · rw [if_neg h2360] at e
        refine mm_T.seg (f' := (14, [some (.ref 1), some (.int x1), some (.int x2), none], [(.int x1), (.ref 18)])) (h' := (107, I, J, mm_rf 19 sp rr w nw)) 3 rfl ?_
        refine mm_T.call (t := 101) (as := [(.ref 18), (.int x1)]) (f' := (17, [some (.ref 1), some (.int x1), some (.int x2), none], [])) rfl (tX7_isBoard (d + 4) x1 I J 19 sp rr w nw (Or.inr rfl) _ rfl) (fun v h hq => ?_)
        obtain ⟨rfl, rfl⟩ := hq
        refine mm_T.br (c := (fX7_isBoard x1 I 19) = 0) (a := ((31, [some (.ref 1), some (.int x1), some (.int x2), none], []), (107, I, J, mm_rf 19 sp rr w nw))) (b := ((20, [some (.ref 1), some (.int x1), some (.int x2), none], []), (107, I, J, mm_rf 19 sp rr w nw))) rfl (fun h2361 => ?_) (fun h2361 => ?_)
        · rw [if_pos h2361] at e
          refine mm_T.seg (f' := (32, [some (.ref 1), some (.int x1), some (.int x2), none], [(.int (-1))])) (h' := (107, I, J, mm_rf 19 sp rr w nw)) 1 rfl ?_
          cases e
          exact mm_T.ret rfl ⟨rfl, rfl⟩
        · rw [if_neg h2361] at e
          refine mm_T.seg (f' := (25, [some (.ref 1), some (.int x1), some (.int x2), none], [(.int x1), (.ref 18)])) (h' := (107, I, J, mm_rf 19 sp rr w nw)) 3 rfl ?_
          refine mm_T.call (t := 119) (as := [(.ref 18), (.int x1)]) (f' := (28, [some (.ref 1), some (.int x1), some (.int x2), none], [])) rfl (tX7_isAtBank (d + 1) x1 I J 19 sp rr w nw (Or.inr rfl) _ rfl) (fun v h hq => ?_)
          obtain ⟨rfl, rfl⟩ := hq
          refine mm_T.br (c := (fX7_isAtBank x1 I 19) = 0) (a := ((31, [some (.ref 1), some (.int x1), some (.int x2), none], []), (107, I, J, mm_rf 19 sp rr w nw))) (b := ((33, [some (.ref 1), some (.int x1), some (.int x2), none], []), (107, I, J, mm_rf 19 sp rr w nw))) rfl (fun h2362 => ?_) (fun h2362 => ?_)
          · rw [if_pos h2362] at e
            refine mm_T.seg (f' := (32, [some (.ref 1), some (.int x1), some (.int x2), none], [(.int (-1))])) (h' := (107, I, J, mm_rf 19 sp rr w nw)) 1 rfl ?_
            cases e
            exact mm_T.ret rfl ⟨rfl, rfl⟩
          · rw [if_neg h2362] at e
            refine mm_T.seg (f' := (38, [some (.ref 1), some (.int x1), some (.int x2), none], [(.int x1), (.ref 45)])) (h' := (107, I, J, mm_rf 19 sp rr w nw)) 3 rfl ?_
            obtain ⟨o2363, eo2363, e⟩ := mm_bind e
            refine mm_T.call (t := 132) (as := [(.ref 45), (.int x1)]) (f' := (41, [some (.ref 1), some (.int x1), some (.int x2), none], [])) rfl (tX9_widestSet (d + 0) n x1 I J 19 sp rr w nw (Or.inr rfl) o2363 eo2363) (fun v h hq => ?_)
            obtain ⟨rfl, rfl⟩ := hq
            refine mm_T.seg (f' := (43, [some (.ref 1), some (.int x1), some (.int x2), some (.int o2363)], [(.int x2)])) (h' := (107, I, J, mm_rf 19 sp rr w nw)) 2 rfl ?_
            refine mm_T.br (c := x2 = 0) (a := ((46, [some (.ref 1), some (.int x1), some (.int x2), some (.int o2363)], []), (107, I, J, mm_rf 19 sp rr w nw))) (b := ((57, [some (.ref 1), some (.int x1), some (.int x2), some (.int o2363)], []), (107, I, J, mm_rf 19 sp rr w nw))) rfl (fun h2364 => ?_) (fun h2364 => ?_)
            · rw [if_pos h2364] at e
              refine mm_T.seg (f' := (51, [some (.ref 1), some (.int x1), some (.int x2), some (.int o2363)], [(.int o2363), (.ref 45)])) (h' := (107, I, J, mm_rf 19 sp rr w nw)) 3 rfl ?_
              obtain ⟨o2365, eo2365, e⟩ := mm_bind e
              refine mm_T.call (t := 131) (as := [(.ref 45), (.int o2363)]) (f' := (54, [some (.ref 1), some (.int x1), some (.int x2), some (.int o2363)], [])) rfl (tX9_widthOf (d + 2) n o2363 I J 19 sp rr w nw (Or.inr rfl) o2365 eo2365) (fun v h hq => ?_)
              obtain ⟨rfl, rfl⟩ := hq
              refine mm_T.seg (f' := (58, [some (.ref 1), some (.int x1), some (.int x2), some (.int o2363)], [(.int o2365)])) (h' := (107, I, J, mm_rf 19 sp rr w nw)) 1 rfl ?_
              cases e
              exact mm_T.ret rfl ⟨rfl, rfl⟩
            · rw [if_neg h2364] at e
              refine mm_T.seg (f' := (58, [some (.ref 1), some (.int x1), some (.int x2), some (.int o2363)], [(.int o2363)])) (h' := (107, I, J, mm_rf 19 sp rr w nw)) 1 rfl ?_
              cases e
              exact mm_T.ret rfl ⟨rfl, rfl⟩
set_option maxRecDepth 100000 in
set_option maxHeartbeats 4000000 in
theorem tlX3_addAll_49_L2 (d : Nat) (Q : Option Value → mm_H → Prop) : ∀ (n : Nat) (y2 : Int32) (y3 : Int32) (I : Nat → Nat → Int32) (J : Nat → Nat → Int64) (rv sp rr w nw : Nat), ∀ (out : (Nat → Nat → Int32)), fX3_addAll_49_L2 n y2 y3 I = some out → mm_T none (d + 1) 25 (26, [none, none, none, none], []) (107, out, J, mm_rf rv sp rr w nw) Q → mm_T none (d + 1) 25 (2, [some (.ref 35), some (.ref 49), some (.int y2), some (.int y3)], []) (107, I, J, mm_rf rv sp rr w nw) Q := by
  intro n
  induction n with
  | zero =>
    intro y2 y3 I J rv sp rr w nw out e k
    rw [fX3_addAll_49_L2] at e; cases e
  | succ n ih =>
    intro y2 y3 I J rv sp rr w nw out e k
    rw [fX3_addAll_49_L2] at e
    refine mm_T.seg (f' := (4, [some (.ref 35), some (.ref 49), some (.int y2), some (.int y3)], [(.int y2), (.int y3)])) (h' := (107, I, J, mm_rf rv sp rr w nw)) 2 rfl ?_
    refine mm_T.br (c := y3 < y2) (a := ((7, [some (.ref 35), some (.ref 49), some (.int y2), some (.int y3)], []), (107, I, J, mm_rf rv sp rr w nw))) (b := ((26, [some (.ref 35), some (.ref 49), some (.int y2), some (.int y3)], []), (107, I, J, mm_rf rv sp rr w nw))) rfl (fun h2369 => ?_) (fun h2369 => ?_)
    · rw [if_pos h2369] at e
      refine mm_T.seg (f' := (10, [some (.ref 35), some (.ref 49), some (.int y2), some (.int y3)], [(.int 7), (.int y3)])) (h' := (107, I, J, mm_rf rv sp rr w nw)) 3 rfl ?_
      refine mm_T.br (c := y3 < 7) (a := ((13, [some (.ref 35), some (.ref 49), some (.int y2), some (.int y3)], []), (107, I, J, mm_rf rv sp rr w nw))) (b := ((26, [some (.ref 35), some (.ref 49), some (.int y2), some (.int y3)], []), (107, I, J, mm_rf rv sp rr w nw))) rfl (fun h2370 => ?_) (fun h2370 => ?_)
      · rw [if_pos h2370] at e
        refine mm_T.seg (f' := (16, [some (.ref 35), some (.ref 49), some (.int y2), some (.int y3)], [(.int y3), (.ref 49), (.ref 35)])) (h' := (107, I, J, mm_rf rv sp rr w nw)) 3 rfl ?_
        by_cases h2371 : y3 < 0 ∨ 7 ≤ y3.toNatClampNeg
        · rw [if_pos h2371] at e; cases e
        rw [if_neg h2371] at e
        refine mm_T.guard (y := ((17, [some (.ref 35), some (.ref 49), some (.int y2), some (.int y3)], [(.int (I 49 y3.toNatClampNeg)), (.ref 35)]), (107, I, J, mm_rf rv sp rr w nw))) rfl h2371 ?_
        obtain ⟨o2372, eo2372, e⟩ := mm_bind e
        refine mm_T.call (t := 24) (as := [(.ref 35), (.int (I 49 y3.toNatClampNeg))]) (f' := (20, [some (.ref 35), some (.ref 49), some (.int y2), some (.int y3)], [])) rfl (tX3_add (d + 0) (I 49 y3.toNatClampNeg) I J rv sp rr w nw o2372 eo2372) (fun v h hq => ?_)
        obtain ⟨rfl, rfl⟩ := hq
        refine mm_T.seg (f' := (2, [some (.ref 35), some (.ref 49), some (.int y2), some (.int (y3 + 1))], [])) (h' := (107, o2372, J, mm_rf rv sp rr w nw)) 2 rfl ?_
        refine mm_T.mask [true, true, true, true] ?_
        exact ih y2 (y3 + 1) o2372 J rv sp rr w nw out e k
      · rw [if_neg h2370] at e
        cases e
        refine mm_T.mask [false, false, false, false] ?_
        exact k
    · rw [if_neg h2369] at e
      cases e
      refine mm_T.mask [false, false, false, false] ?_
      exact k
set_option maxRecDepth 100000 in
set_option maxHeartbeats 4000000 in
theorem tX3_addAll_49 (d n : Nat) (x2 : Int32) (I : Nat → Nat → Int32) (J : Nat → Nat → Int64) (rv sp rr w nw : Nat) (out : (Nat → Nat → Int32)) (e : fX3_addAll_49 n x2 I = some out) : mm_T none (d + 1) 25 (mm_ent 25 [(.ref 35), (.ref 49), (.int x2)]) (107, I, J, mm_rf rv sp rr w nw) (fun v h => v = none ∧ h = (107, out, J, mm_rf rv sp rr w nw)) := by
  unfold fX3_addAll_49 at e
  refine mm_T.seg (f' := (2, [some (.ref 35), some (.ref 49), some (.int x2), some (.int 0)], [])) (h' := (107, I, J, mm_rf rv sp rr w nw)) 2 rfl ?_
  refine mm_T.mask [true, true, true, true] ?_
  obtain ⟨o2373, eo2373, e⟩ := mm_bind e
  refine tlX3_addAll_49_L2 d _ n x2 0 I J rv sp rr w nw o2373 eo2373 ?_
  cases e
  exact mm_T.ret rfl ⟨rfl, rfl⟩
set_option maxRecDepth 100000 in
set_option maxHeartbeats 4000000 in
theorem tX11_trips (d n : Nat) (x1 : Int32) (I : Nat → Nat → Int32) (J : Nat → Nat → Int64) (rv sp rr w nw : Nat) (hrv : rv = 3 ∨ rv = 19) (out : Int32 × (Nat → Nat → Int32)) (e : fX11_trips n x1 I rv = some out) : mm_T none (d + 30) 181 (mm_ent 181 [(.ref 1), (.int x1)]) (107, I, J, mm_rf rv sp rr w nw) (fun v h => v = some (.int out.1) ∧ h = (107, out.2, J, mm_rf rv sp rr w nw)) := by
  rcases hrv with rfl | rfl
  · unfold fX11_trips at e
    refine mm_T.seg (f' := (4, [some (.ref 1), some (.int x1), none], [(.ref 35)])) (h' := (107, I, J, mm_rf 3 sp rr w nw)) 2 rfl ?_
    refine mm_T.call (t := 23) (as := [(.ref 35)]) (f' := (7, [some (.ref 1), some (.int x1), none], [])) rfl (tX3_clear (d + 29) I J 3 sp rr w nw _ rfl) (fun v h hq => ?_)
    obtain ⟨rfl, rfl⟩ := hq
    refine mm_T.seg (f' := (12, [some (.ref 1), some (.int x1), none], [(.int x1), (.ref 18)])) (h' := (107, (fX3_clear I), J, mm_rf 3 sp rr w nw)) 3 rfl ?_
    refine mm_T.call (t := 101) (as := [(.ref 18), (.int x1)]) (f' := (15, [some (.ref 1), some (.int x1), none], [])) rfl (tX7_isBoard (d + 29) x1 (fX3_clear I) J 3 sp rr w nw (Or.inl rfl) _ rfl) (fun v h hq => ?_)
    obtain ⟨rfl, rfl⟩ := hq
    refine mm_T.br (c := (fX7_isBoard x1 (fX3_clear I) 3) = 0) (a := ((18, [some (.ref 1), some (.int x1), none], []), (107, (fX3_clear I), J, mm_rf 3 sp rr w nw))) (b := ((20, [some (.ref 1), some (.int x1), none], []), (107, (fX3_clear I), J, mm_rf 3 sp rr w nw))) rfl (fun h2366 => ?_) (fun h2366 => ?_)
    · rw [if_pos h2366] at e
      refine mm_T.seg (f' := (19, [some (.ref 1), some (.int x1), none], [(.int (-1))])) (h' := (107, (fX3_clear I), J, mm_rf 3 sp rr w nw)) 1 rfl ?_
      cases e
      exact mm_T.ret rfl ⟨rfl, rfl⟩
    · rw [if_neg h2366] at e
      refine mm_T.seg (f' := (25, [some (.ref 1), some (.int x1), none], [(.int x1), (.ref 45)])) (h' := (107, (fX3_clear I), J, mm_rf 3 sp rr w nw)) 3 rfl ?_
      obtain ⟨o2367, eo2367, e⟩ := mm_bind e
      refine mm_T.call (t := 133) (as := [(.ref 45), (.int x1)]) (f' := (28, [some (.ref 1), some (.int x1), none], [])) rfl (tX9_findTrips (d + 0) n x1 (fX3_clear I) J 3 sp rr w nw (Or.inl rfl) o2367 eo2367) (fun v h hq => ?_)
      obtain ⟨rfl, rfl⟩ := hq
      refine mm_T.seg (f' := (31, [some (.ref 1), some (.int x1), some (.int o2367.1)], [(.int (-1)), (.int o2367.1)])) (h' := (107, o2367.2, J, mm_rf 3 sp rr w nw)) 3 rfl ?_
      refine mm_T.br (c := o2367.1 = (-1)) (a := ((58, [some (.ref 1), some (.int x1), some (.int o2367.1)], []), (107, o2367.2, J, mm_rf 3 sp rr w nw))) (b := ((34, [some (.ref 1), some (.int x1), some (.int o2367.1)], []), (107, o2367.2, J, mm_rf 3 sp rr w nw))) rfl (fun h2368 => ?_) (fun h2368 => ?_)
      · rw [if_pos h2368] at e
        refine mm_T.seg (f' := (59, [some (.ref 1), some (.int x1), some (.int o2367.1)], [(.int o2367.1)])) (h' := (107, o2367.2, J, mm_rf 3 sp rr w nw)) 1 rfl ?_
        cases e
        exact mm_T.ret rfl ⟨rfl, rfl⟩
      · rw [if_neg h2368] at e
        refine mm_T.seg (f' := (55, [some (.ref 1), some (.int x1), some (.int o2367.1)], [(.int (o2367.2 3 5)), (.ref 49), (.ref 35)])) (h' := (107, o2367.2, J, mm_rf 3 sp rr w nw)) 9 rfl ?_
        obtain ⟨o2374, eo2374, e⟩ := mm_bind e
        refine mm_T.call (t := 25) (as := [(.ref 35), (.ref 49), (.int (o2367.2 3 5))]) (f' := (58, [some (.ref 1), some (.int x1), some (.int o2367.1)], [])) rfl (tX3_addAll_49 (d + 28) n (o2367.2 3 5) o2367.2 J 3 sp rr w nw o2374 eo2374) (fun v h hq => ?_)
        obtain ⟨rfl, rfl⟩ := hq
        refine mm_T.seg (f' := (59, [some (.ref 1), some (.int x1), some (.int o2367.1)], [(.int o2367.1)])) (h' := (107, o2374, J, mm_rf 3 sp rr w nw)) 1 rfl ?_
        cases e
        exact mm_T.ret rfl ⟨rfl, rfl⟩
  · unfold fX11_trips at e
    refine mm_T.seg (f' := (4, [some (.ref 1), some (.int x1), none], [(.ref 35)])) (h' := (107, I, J, mm_rf 19 sp rr w nw)) 2 rfl ?_
    refine mm_T.call (t := 23) (as := [(.ref 35)]) (f' := (7, [some (.ref 1), some (.int x1), none], [])) rfl (tX3_clear (d + 29) I J 19 sp rr w nw _ rfl) (fun v h hq => ?_)
    obtain ⟨rfl, rfl⟩ := hq
    refine mm_T.seg (f' := (12, [some (.ref 1), some (.int x1), none], [(.int x1), (.ref 18)])) (h' := (107, (fX3_clear I), J, mm_rf 19 sp rr w nw)) 3 rfl ?_
    refine mm_T.call (t := 101) (as := [(.ref 18), (.int x1)]) (f' := (15, [some (.ref 1), some (.int x1), none], [])) rfl (tX7_isBoard (d + 29) x1 (fX3_clear I) J 19 sp rr w nw (Or.inr rfl) _ rfl) (fun v h hq => ?_)
    obtain ⟨rfl, rfl⟩ := hq
    refine mm_T.br (c := (fX7_isBoard x1 (fX3_clear I) 19) = 0) (a := ((18, [some (.ref 1), some (.int x1), none], []), (107, (fX3_clear I), J, mm_rf 19 sp rr w nw))) (b := ((20, [some (.ref 1), some (.int x1), none], []), (107, (fX3_clear I), J, mm_rf 19 sp rr w nw))) rfl (fun h2366 => ?_) (fun h2366 => ?_)
    · rw [if_pos h2366] at e
      refine mm_T.seg (f' := (19, [some (.ref 1), some (.int x1), none], [(.int (-1))])) (h' := (107, (fX3_clear I), J, mm_rf 19 sp rr w nw)) 1 rfl ?_
      cases e
      exact mm_T.ret rfl ⟨rfl, rfl⟩
    · rw [if_neg h2366] at e
      refine mm_T.seg (f' := (25, [some (.ref 1), some (.int x1), none], [(.int x1), (.ref 45)])) (h' := (107, (fX3_clear I), J, mm_rf 19 sp rr w nw)) 3 rfl ?_
      obtain ⟨o2367, eo2367, e⟩ := mm_bind e
      refine mm_T.call (t := 133) (as := [(.ref 45), (.int x1)]) (f' := (28, [some (.ref 1), some (.int x1), none], [])) rfl (tX9_findTrips (d + 0) n x1 (fX3_clear I) J 19 sp rr w nw (Or.inr rfl) o2367 eo2367) (fun v h hq => ?_)
      obtain ⟨rfl, rfl⟩ := hq
      refine mm_T.seg (f' := (31, [some (.ref 1), some (.int x1), some (.int o2367.1)], [(.int (-1)), (.int o2367.1)])) (h' := (107, o2367.2, J, mm_rf 19 sp rr w nw)) 3 rfl ?_
      refine mm_T.br (c := o2367.1 = (-1)) (a := ((58, [some (.ref 1), some (.int x1), some (.int o2367.1)], []), (107, o2367.2, J, mm_rf 19 sp rr w nw))) (b := ((34, [some (.ref 1), some (.int x1), some (.int o2367.1)], []), (107, o2367.2, J, mm_rf 19 sp rr w nw))) rfl (fun h2368 => ?_) (fun h2368 => ?_)
      · rw [if_pos h2368] at e
        refine mm_T.seg (f' := (59, [some (.ref 1), some (.int x1), some (.int o2367.1)], [(.int o2367.1)])) (h' := (107, o2367.2, J, mm_rf 19 sp rr w nw)) 1 rfl ?_
        cases e
        exact mm_T.ret rfl ⟨rfl, rfl⟩
      · rw [if_neg h2368] at e
        refine mm_T.seg (f' := (55, [some (.ref 1), some (.int x1), some (.int o2367.1)], [(.int (o2367.2 19 5)), (.ref 49), (.ref 35)])) (h' := (107, o2367.2, J, mm_rf 19 sp rr w nw)) 9 rfl ?_
        obtain ⟨o2374, eo2374, e⟩ := mm_bind e
        refine mm_T.call (t := 25) (as := [(.ref 35), (.ref 49), (.int (o2367.2 19 5))]) (f' := (58, [some (.ref 1), some (.int x1), some (.int o2367.1)], [])) rfl (tX3_addAll_49 (d + 28) n (o2367.2 19 5) o2367.2 J 19 sp rr w nw o2374 eo2374) (fun v h hq => ?_)
        obtain ⟨rfl, rfl⟩ := hq
        refine mm_T.seg (f' := (59, [some (.ref 1), some (.int x1), some (.int o2367.1)], [(.int o2367.1)])) (h' := (107, o2374, J, mm_rf 19 sp rr w nw)) 1 rfl ?_
        cases e
        exact mm_T.ret rfl ⟨rfl, rfl⟩
set_option maxRecDepth 100000 in
set_option maxHeartbeats 4000000 in
theorem tX11_stowing (d n : Nat) (I : Nat → Nat → Int32) (J : Nat → Nat → Int64) (rv sp rr w nw : Nat) (hrv : rv = 3 ∨ rv = 19) (out : Int32 × (Nat → Nat → Int32)) (e : fX11_stowing n I rv = some out) : mm_T none (d + 30) 182 (mm_ent 182 [(.ref 1)]) (107, I, J, mm_rf rv sp rr w nw) (fun v h => v = some (.int out.1) ∧ h = (107, out.2, J, mm_rf rv sp rr w nw)) := by
  rcases hrv with rfl | rfl
  · unfold fX11_stowing at e
    refine mm_T.seg (f' := (4, [some (.ref 1), none], [(.ref 35)])) (h' := (107, I, J, mm_rf 3 sp rr w nw)) 2 rfl ?_
    refine mm_T.call (t := 23) (as := [(.ref 35)]) (f' := (7, [some (.ref 1), none], [])) rfl (tX3_clear (d + 29) I J 3 sp rr w nw _ rfl) (fun v h hq => ?_)
    obtain ⟨rfl, rfl⟩ := hq
    refine mm_T.seg (f' := (11, [some (.ref 1), none], [(.ref 45)])) (h' := (107, (fX3_clear I), J, mm_rf 3 sp rr w nw)) 2 rfl ?_
    obtain ⟨o2375, eo2375, e⟩ := mm_bind e
    refine mm_T.call (t := 134) (as := [(.ref 45)]) (f' := (14, [some (.ref 1), none], [])) rfl (tX9_findStowing (d + 0) n (fX3_clear I) J 3 sp rr w nw (Or.inl rfl) o2375 eo2375) (fun v h hq => ?_)
    obtain ⟨rfl, rfl⟩ := hq
    refine mm_T.seg (f' := (17, [some (.ref 1), some (.int o2375.1)], [(.int (-1)), (.int o2375.1)])) (h' := (107, o2375.2, J, mm_rf 3 sp rr w nw)) 3 rfl ?_
    refine mm_T.br (c := o2375.1 = (-1)) (a := ((44, [some (.ref 1), some (.int o2375.1)], []), (107, o2375.2, J, mm_rf 3 sp rr w nw))) (b := ((20, [some (.ref 1), some (.int o2375.1)], []), (107, o2375.2, J, mm_rf 3 sp rr w nw))) rfl (fun h2376 => ?_) (fun h2376 => ?_)
    · rw [if_pos h2376] at e
      refine mm_T.seg (f' := (45, [some (.ref 1), some (.int o2375.1)], [(.int o2375.1)])) (h' := (107, o2375.2, J, mm_rf 3 sp rr w nw)) 1 rfl ?_
      cases e
      exact mm_T.ret rfl ⟨rfl, rfl⟩
    · rw [if_neg h2376] at e
      refine mm_T.seg (f' := (41, [some (.ref 1), some (.int o2375.1)], [(.int (o2375.2 3 5)), (.ref 49), (.ref 35)])) (h' := (107, o2375.2, J, mm_rf 3 sp rr w nw)) 9 rfl ?_
      obtain ⟨o2377, eo2377, e⟩ := mm_bind e
      refine mm_T.call (t := 25) (as := [(.ref 35), (.ref 49), (.int (o2375.2 3 5))]) (f' := (44, [some (.ref 1), some (.int o2375.1)], [])) rfl (tX3_addAll_49 (d + 28) n (o2375.2 3 5) o2375.2 J 3 sp rr w nw o2377 eo2377) (fun v h hq => ?_)
      obtain ⟨rfl, rfl⟩ := hq
      refine mm_T.seg (f' := (45, [some (.ref 1), some (.int o2375.1)], [(.int o2375.1)])) (h' := (107, o2377, J, mm_rf 3 sp rr w nw)) 1 rfl ?_
      cases e
      exact mm_T.ret rfl ⟨rfl, rfl⟩
  · unfold fX11_stowing at e
    refine mm_T.seg (f' := (4, [some (.ref 1), none], [(.ref 35)])) (h' := (107, I, J, mm_rf 19 sp rr w nw)) 2 rfl ?_
    refine mm_T.call (t := 23) (as := [(.ref 35)]) (f' := (7, [some (.ref 1), none], [])) rfl (tX3_clear (d + 29) I J 19 sp rr w nw _ rfl) (fun v h hq => ?_)
    obtain ⟨rfl, rfl⟩ := hq
    refine mm_T.seg (f' := (11, [some (.ref 1), none], [(.ref 45)])) (h' := (107, (fX3_clear I), J, mm_rf 19 sp rr w nw)) 2 rfl ?_
    obtain ⟨o2375, eo2375, e⟩ := mm_bind e
    refine mm_T.call (t := 134) (as := [(.ref 45)]) (f' := (14, [some (.ref 1), none], [])) rfl (tX9_findStowing (d + 0) n (fX3_clear I) J 19 sp rr w nw (Or.inr rfl) o2375 eo2375) (fun v h hq => ?_)
    obtain ⟨rfl, rfl⟩ := hq
    refine mm_T.seg (f' := (17, [some (.ref 1), some (.int o2375.1)], [(.int (-1)), (.int o2375.1)])) (h' := (107, o2375.2, J, mm_rf 19 sp rr w nw)) 3 rfl ?_
    refine mm_T.br (c := o2375.1 = (-1)) (a := ((44, [some (.ref 1), some (.int o2375.1)], []), (107, o2375.2, J, mm_rf 19 sp rr w nw))) (b := ((20, [some (.ref 1), some (.int o2375.1)], []), (107, o2375.2, J, mm_rf 19 sp rr w nw))) rfl (fun h2376 => ?_) (fun h2376 => ?_)
    · rw [if_pos h2376] at e
      refine mm_T.seg (f' := (45, [some (.ref 1), some (.int o2375.1)], [(.int o2375.1)])) (h' := (107, o2375.2, J, mm_rf 19 sp rr w nw)) 1 rfl ?_
      cases e
      exact mm_T.ret rfl ⟨rfl, rfl⟩
    · rw [if_neg h2376] at e
      refine mm_T.seg (f' := (41, [some (.ref 1), some (.int o2375.1)], [(.int (o2375.2 19 5)), (.ref 49), (.ref 35)])) (h' := (107, o2375.2, J, mm_rf 19 sp rr w nw)) 9 rfl ?_
      obtain ⟨o2377, eo2377, e⟩ := mm_bind e
      refine mm_T.call (t := 25) (as := [(.ref 35), (.ref 49), (.int (o2375.2 19 5))]) (f' := (44, [some (.ref 1), some (.int o2375.1)], [])) rfl (tX3_addAll_49 (d + 28) n (o2375.2 19 5) o2375.2 J 19 sp rr w nw o2377 eo2377) (fun v h hq => ?_)
      obtain ⟨rfl, rfl⟩ := hq
      refine mm_T.seg (f' := (45, [some (.ref 1), some (.int o2375.1)], [(.int o2375.1)])) (h' := (107, o2377, J, mm_rf 19 sp rr w nw)) 1 rfl ?_
      cases e
      exact mm_T.ret rfl ⟨rfl, rfl⟩
set_option maxRecDepth 100000 in
set_option maxHeartbeats 4000000 in
theorem tX11_meet (d n : Nat) (x1 : Int32) (x2 : Int32) (I : Nat → Nat → Int32) (J : Nat → Nat → Int64) (rv sp rr w nw : Nat) (hrv : rv = 3 ∨ rv = 19) (out : Int32) (e : fX11_meet n x1 x2 I rv = some out) : mm_T none (d + 4) 183 (mm_ent 183 [(.ref 1), (.int x1), (.int x2)]) (107, I, J, mm_rf rv sp rr w nw) (fun v h => v = some (.int out) ∧ h = (107, I, J, mm_rf rv sp rr w nw)) := by
  rcases hrv with rfl | rfl
  · unfold fX11_meet at e
    refine mm_T.seg (f' := (5, [some (.ref 1), some (.int x1), some (.int x2)], [(.int x1), (.ref 18)])) (h' := (107, I, J, mm_rf 3 sp rr w nw)) 3 rfl ?_
    refine mm_T.call (t := 101) (as := [(.ref 18), (.int x1)]) (f' := (8, [some (.ref 1), some (.int x1), some (.int x2)], [])) rfl (tX7_isBoard (d + 3) x1 I J 3 sp rr w nw (Or.inl rfl) _ rfl) (fun v h hq => ?_)
    obtain ⟨rfl, rfl⟩ := hq
    refine mm_T.br (c := (fX7_isBoard x1 I 3) = 0) (a := ((27, [some (.ref 1), some (.int x1), some (.int x2)], []), (107, I, J, mm_rf 3 sp rr w nw))) (b := ((11, [some (.ref 1), some (.int x1), some (.int x2)], []), (107, I, J, mm_rf 3 sp rr w nw))) rfl (fun h2378 => ?_) (fun h2378 => ?_)
    · rw [if_pos h2378] at e
      refine mm_T.seg (f' := (28, [some (.ref 1), some (.int x1), some (.int x2)], [(.int (-1))])) (h' := (107, I, J, mm_rf 3 sp rr w nw)) 1 rfl ?_
      cases e
      exact mm_T.ret rfl ⟨rfl, rfl⟩
    · rw [if_neg h2378] at e
      refine mm_T.seg (f' := (16, [some (.ref 1), some (.int x1), some (.int x2)], [(.int x2), (.ref 18)])) (h' := (107, I, J, mm_rf 3 sp rr w nw)) 3 rfl ?_
      refine mm_T.call (t := 101) (as := [(.ref 18), (.int x2)]) (f' := (19, [some (.ref 1), some (.int x1), some (.int x2)], [])) rfl (tX7_isBoard (d + 3) x2 I J 3 sp rr w nw (Or.inl rfl) _ rfl) (fun v h hq => ?_)
      obtain ⟨rfl, rfl⟩ := hq
      refine mm_T.br (c := (fX7_isBoard x2 I 3) = 0) (a := ((27, [some (.ref 1), some (.int x1), some (.int x2)], []), (107, I, J, mm_rf 3 sp rr w nw))) (b := ((22, [some (.ref 1), some (.int x1), some (.int x2)], []), (107, I, J, mm_rf 3 sp rr w nw))) rfl (fun h2379 => ?_) (fun h2379 => ?_)
      · rw [if_pos h2379] at e
        refine mm_T.seg (f' := (28, [some (.ref 1), some (.int x1), some (.int x2)], [(.int (-1))])) (h' := (107, I, J, mm_rf 3 sp rr w nw)) 1 rfl ?_
        cases e
        exact mm_T.ret rfl ⟨rfl, rfl⟩
      · rw [if_neg h2379] at e
        refine mm_T.seg (f' := (24, [some (.ref 1), some (.int x1), some (.int x2)], [(.int x2), (.int x1)])) (h' := (107, I, J, mm_rf 3 sp rr w nw)) 2 rfl ?_
        refine mm_T.br (c := x1 = x2) (a := ((27, [some (.ref 1), some (.int x1), some (.int x2)], []), (107, I, J, mm_rf 3 sp rr w nw))) (b := ((29, [some (.ref 1), some (.int x1), some (.int x2)], []), (107, I, J, mm_rf 3 sp rr w nw))) rfl (fun h2380 => ?_) (fun h2380 => ?_)
        · rw [if_pos h2380] at e
          refine mm_T.seg (f' := (28, [some (.ref 1), some (.int x1), some (.int x2)], [(.int (-1))])) (h' := (107, I, J, mm_rf 3 sp rr w nw)) 1 rfl ?_
          cases e
          exact mm_T.ret rfl ⟨rfl, rfl⟩
        · rw [if_neg h2380] at e
          refine mm_T.seg (f' := (35, [some (.ref 1), some (.int x1), some (.int x2)], [(.int x2), (.int x1), (.ref 37)])) (h' := (107, I, J, mm_rf 3 sp rr w nw)) 4 rfl ?_
          obtain ⟨o2381, eo2381, e⟩ := mm_bind e
          refine mm_T.call (t := 94) (as := [(.ref 37), (.int x1), (.int x2)]) (f' := (38, [some (.ref 1), some (.int x1), some (.int x2)], [])) rfl (tX6_strokesToMeet (d + 0) n x1 x2 I J 3 sp rr w nw (Or.inl rfl) o2381 eo2381) (fun v h hq => ?_)
          obtain ⟨rfl, rfl⟩ := hq
          cases e
          exact mm_T.ret rfl ⟨rfl, rfl⟩
  · unfold fX11_meet at e
    refine mm_T.seg (f' := (5, [some (.ref 1), some (.int x1), some (.int x2)], [(.int x1), (.ref 18)])) (h' := (107, I, J, mm_rf 19 sp rr w nw)) 3 rfl ?_
    refine mm_T.call (t := 101) (as := [(.ref 18), (.int x1)]) (f' := (8, [some (.ref 1), some (.int x1), some (.int x2)], [])) rfl (tX7_isBoard (d + 3) x1 I J 19 sp rr w nw (Or.inr rfl) _ rfl) (fun v h hq => ?_)
    obtain ⟨rfl, rfl⟩ := hq
    refine mm_T.br (c := (fX7_isBoard x1 I 19) = 0) (a := ((27, [some (.ref 1), some (.int x1), some (.int x2)], []), (107, I, J, mm_rf 19 sp rr w nw))) (b := ((11, [some (.ref 1), some (.int x1), some (.int x2)], []), (107, I, J, mm_rf 19 sp rr w nw))) rfl (fun h2378 => ?_) (fun h2378 => ?_)
    · rw [if_pos h2378] at e
      refine mm_T.seg (f' := (28, [some (.ref 1), some (.int x1), some (.int x2)], [(.int (-1))])) (h' := (107, I, J, mm_rf 19 sp rr w nw)) 1 rfl ?_
      cases e
      exact mm_T.ret rfl ⟨rfl, rfl⟩
    · rw [if_neg h2378] at e
      refine mm_T.seg (f' := (16, [some (.ref 1), some (.int x1), some (.int x2)], [(.int x2), (.ref 18)])) (h' := (107, I, J, mm_rf 19 sp rr w nw)) 3 rfl ?_
      refine mm_T.call (t := 101) (as := [(.ref 18), (.int x2)]) (f' := (19, [some (.ref 1), some (.int x1), some (.int x2)], [])) rfl (tX7_isBoard (d + 3) x2 I J 19 sp rr w nw (Or.inr rfl) _ rfl) (fun v h hq => ?_)
      obtain ⟨rfl, rfl⟩ := hq
      refine mm_T.br (c := (fX7_isBoard x2 I 19) = 0) (a := ((27, [some (.ref 1), some (.int x1), some (.int x2)], []), (107, I, J, mm_rf 19 sp rr w nw))) (b := ((22, [some (.ref 1), some (.int x1), some (.int x2)], []), (107, I, J, mm_rf 19 sp rr w nw))) rfl (fun h2379 => ?_) (fun h2379 => ?_)
      · rw [if_pos h2379] at e
        refine mm_T.seg (f' := (28, [some (.ref 1), some (.int x1), some (.int x2)], [(.int (-1))])) (h' := (107, I, J, mm_rf 19 sp rr w nw)) 1 rfl ?_
        cases e
        exact mm_T.ret rfl ⟨rfl, rfl⟩
      · rw [if_neg h2379] at e
        refine mm_T.seg (f' := (24, [some (.ref 1), some (.int x1), some (.int x2)], [(.int x2), (.int x1)])) (h' := (107, I, J, mm_rf 19 sp rr w nw)) 2 rfl ?_
        refine mm_T.br (c := x1 = x2) (a := ((27, [some (.ref 1), some (.int x1), some (.int x2)], []), (107, I, J, mm_rf 19 sp rr w nw))) (b := ((29, [some (.ref 1), some (.int x1), some (.int x2)], []), (107, I, J, mm_rf 19 sp rr w nw))) rfl (fun h2380 => ?_) (fun h2380 => ?_)
        · rw [if_pos h2380] at e
          refine mm_T.seg (f' := (28, [some (.ref 1), some (.int x1), some (.int x2)], [(.int (-1))])) (h' := (107, I, J, mm_rf 19 sp rr w nw)) 1 rfl ?_
          cases e
          exact mm_T.ret rfl ⟨rfl, rfl⟩
        · rw [if_neg h2380] at e
          refine mm_T.seg (f' := (35, [some (.ref 1), some (.int x1), some (.int x2)], [(.int x2), (.int x1), (.ref 37)])) (h' := (107, I, J, mm_rf 19 sp rr w nw)) 4 rfl ?_
          obtain ⟨o2381, eo2381, e⟩ := mm_bind e
          refine mm_T.call (t := 94) (as := [(.ref 37), (.int x1), (.int x2)]) (f' := (38, [some (.ref 1), some (.int x1), some (.int x2)], [])) rfl (tX6_strokesToMeet (d + 0) n x1 x2 I J 19 sp rr w nw (Or.inr rfl) o2381 eo2381) (fun v h hq => ?_)
          obtain ⟨rfl, rfl⟩ := hq
          cases e
          exact mm_T.ret rfl ⟨rfl, rfl⟩
set_option maxRecDepth 100000 in
set_option maxHeartbeats 4000000 in
theorem tlX3_addAll_53_L2 (d : Nat) (Q : Option Value → mm_H → Prop) : ∀ (n : Nat) (y2 : Int32) (y3 : Int32) (I : Nat → Nat → Int32) (J : Nat → Nat → Int64) (rv sp rr w nw : Nat), ∀ (out : (Nat → Nat → Int32)), fX3_addAll_53_L2 n y2 y3 I = some out → mm_T none (d + 1) 25 (26, [none, none, none, none], []) (107, out, J, mm_rf rv sp rr w nw) Q → mm_T none (d + 1) 25 (2, [some (.ref 35), some (.ref 53), some (.int y2), some (.int y3)], []) (107, I, J, mm_rf rv sp rr w nw) Q := by
  intro n
  induction n with
  | zero =>
    intro y2 y3 I J rv sp rr w nw out e k
    rw [fX3_addAll_53_L2] at e; cases e
  | succ n ih =>
    intro y2 y3 I J rv sp rr w nw out e k
    rw [fX3_addAll_53_L2] at e
    refine mm_T.seg (f' := (4, [some (.ref 35), some (.ref 53), some (.int y2), some (.int y3)], [(.int y2), (.int y3)])) (h' := (107, I, J, mm_rf rv sp rr w nw)) 2 rfl ?_
    refine mm_T.br (c := y3 < y2) (a := ((7, [some (.ref 35), some (.ref 53), some (.int y2), some (.int y3)], []), (107, I, J, mm_rf rv sp rr w nw))) (b := ((26, [some (.ref 35), some (.ref 53), some (.int y2), some (.int y3)], []), (107, I, J, mm_rf rv sp rr w nw))) rfl (fun h2385 => ?_) (fun h2385 => ?_)
    · rw [if_pos h2385] at e
      refine mm_T.seg (f' := (10, [some (.ref 35), some (.ref 53), some (.int y2), some (.int y3)], [(.int 4), (.int y3)])) (h' := (107, I, J, mm_rf rv sp rr w nw)) 3 rfl ?_
      refine mm_T.br (c := y3 < 4) (a := ((13, [some (.ref 35), some (.ref 53), some (.int y2), some (.int y3)], []), (107, I, J, mm_rf rv sp rr w nw))) (b := ((26, [some (.ref 35), some (.ref 53), some (.int y2), some (.int y3)], []), (107, I, J, mm_rf rv sp rr w nw))) rfl (fun h2386 => ?_) (fun h2386 => ?_)
      · rw [if_pos h2386] at e
        refine mm_T.seg (f' := (16, [some (.ref 35), some (.ref 53), some (.int y2), some (.int y3)], [(.int y3), (.ref 53), (.ref 35)])) (h' := (107, I, J, mm_rf rv sp rr w nw)) 3 rfl ?_
        by_cases h2387 : y3 < 0 ∨ 4 ≤ y3.toNatClampNeg
        · rw [if_pos h2387] at e; cases e
        rw [if_neg h2387] at e
        refine mm_T.guard (y := ((17, [some (.ref 35), some (.ref 53), some (.int y2), some (.int y3)], [(.int (I 53 y3.toNatClampNeg)), (.ref 35)]), (107, I, J, mm_rf rv sp rr w nw))) rfl h2387 ?_
        obtain ⟨o2388, eo2388, e⟩ := mm_bind e
        refine mm_T.call (t := 24) (as := [(.ref 35), (.int (I 53 y3.toNatClampNeg))]) (f' := (20, [some (.ref 35), some (.ref 53), some (.int y2), some (.int y3)], [])) rfl (tX3_add (d + 0) (I 53 y3.toNatClampNeg) I J rv sp rr w nw o2388 eo2388) (fun v h hq => ?_)
        obtain ⟨rfl, rfl⟩ := hq
        refine mm_T.seg (f' := (2, [some (.ref 35), some (.ref 53), some (.int y2), some (.int (y3 + 1))], [])) (h' := (107, o2388, J, mm_rf rv sp rr w nw)) 2 rfl ?_
        refine mm_T.mask [true, true, true, true] ?_
        exact ih y2 (y3 + 1) o2388 J rv sp rr w nw out e k
      · rw [if_neg h2386] at e
        cases e
        refine mm_T.mask [false, false, false, false] ?_
        exact k
    · rw [if_neg h2385] at e
      cases e
      refine mm_T.mask [false, false, false, false] ?_
      exact k
set_option maxRecDepth 100000 in
set_option maxHeartbeats 4000000 in
theorem tX3_addAll_53 (d n : Nat) (x2 : Int32) (I : Nat → Nat → Int32) (J : Nat → Nat → Int64) (rv sp rr w nw : Nat) (out : (Nat → Nat → Int32)) (e : fX3_addAll_53 n x2 I = some out) : mm_T none (d + 1) 25 (mm_ent 25 [(.ref 35), (.ref 53), (.int x2)]) (107, I, J, mm_rf rv sp rr w nw) (fun v h => v = none ∧ h = (107, out, J, mm_rf rv sp rr w nw)) := by
  unfold fX3_addAll_53 at e
  refine mm_T.seg (f' := (2, [some (.ref 35), some (.ref 53), some (.int x2), some (.int 0)], [])) (h' := (107, I, J, mm_rf rv sp rr w nw)) 2 rfl ?_
  refine mm_T.mask [true, true, true, true] ?_
  obtain ⟨o2389, eo2389, e⟩ := mm_bind e
  refine tlX3_addAll_53_L2 d _ n x2 0 I J rv sp rr w nw o2389 eo2389 ?_
  cases e
  exact mm_T.ret rfl ⟨rfl, rfl⟩
set_option maxRecDepth 100000 in
set_option maxHeartbeats 4000000 in
theorem tX11_mooring (d n : Nat) (x1 : Int32) (I : Nat → Nat → Int32) (J : Nat → Nat → Int64) (rv sp rr w nw : Nat) (hrv : rv = 3 ∨ rv = 19) (out : Int32 × (Nat → Nat → Int32)) (e : fX11_mooring n x1 I rv = some out) : mm_T none (d + 20) 184 (mm_ent 184 [(.ref 1), (.int x1)]) (107, I, J, mm_rf rv sp rr w nw) (fun v h => v = some (.int out.1) ∧ h = (107, out.2, J, mm_rf rv sp rr w nw)) := by
  rcases hrv with rfl | rfl
  · unfold fX11_mooring at e
    refine mm_T.seg (f' := (1, [some (.ref 1), some (.int x1)], [(.int x1)])) (h' := (107, I, J, mm_rf 3 sp rr w nw)) 1 rfl ?_
    refine mm_T.br (c := x1 < 0) (a := ((9, [some (.ref 1), some (.int x1)], []), (107, I, J, mm_rf 3 sp rr w nw))) (b := ((4, [some (.ref 1), some (.int x1)], []), (107, I, J, mm_rf 3 sp rr w nw))) rfl (fun h2382 => ?_) (fun h2382 => ?_)
    · rw [if_pos h2382] at e
      refine mm_T.seg (f' := (10, [some (.ref 1), some (.int x1)], [(.int (-1))])) (h' := (107, I, J, mm_rf 3 sp rr w nw)) 1 rfl ?_
      cases e
      exact mm_T.ret rfl ⟨rfl, rfl⟩
    · rw [if_neg h2382] at e
      refine mm_T.seg (f' := (6, [some (.ref 1), some (.int x1)], [(.int 1), (.int x1)])) (h' := (107, I, J, mm_rf 3 sp rr w nw)) 2 rfl ?_
      refine mm_T.br (c := 1 < x1) (a := ((9, [some (.ref 1), some (.int x1)], []), (107, I, J, mm_rf 3 sp rr w nw))) (b := ((11, [some (.ref 1), some (.int x1)], []), (107, I, J, mm_rf 3 sp rr w nw))) rfl (fun h2383 => ?_) (fun h2383 => ?_)
      · rw [if_pos h2383] at e
        refine mm_T.seg (f' := (10, [some (.ref 1), some (.int x1)], [(.int (-1))])) (h' := (107, I, J, mm_rf 3 sp rr w nw)) 1 rfl ?_
        cases e
        exact mm_T.ret rfl ⟨rfl, rfl⟩
      · rw [if_neg h2383] at e
        refine mm_T.seg (f' := (15, [some (.ref 1), some (.int x1)], [(.ref 50)])) (h' := (107, I, J, mm_rf 3 sp rr w nw)) 2 rfl ?_
        obtain ⟨o2384, eo2384, e⟩ := mm_bind e
        refine mm_T.call (t := 7) (as := [(.ref 50)]) (f' := (18, [some (.ref 1), some (.int x1)], [])) rfl (tX1_findMooring (d + 0) n I J 3 sp rr w nw (Or.inl rfl) o2384 eo2384) (fun v h hq => ?_)
        obtain ⟨rfl, rfl⟩ := hq
        refine mm_T.seg (f' := (22, [some (.ref 1), some (.int x1)], [(.ref 35)])) (h' := (107, o2384, J, mm_rf 3 sp rr w nw)) 2 rfl ?_
        refine mm_T.call (t := 23) (as := [(.ref 35)]) (f' := (25, [some (.ref 1), some (.int x1)], [])) rfl (tX3_clear (d + 19) o2384 J 3 sp rr w nw _ rfl) (fun v h hq => ?_)
        obtain ⟨rfl, rfl⟩ := hq
        refine mm_T.seg (f' := (46, [some (.ref 1), some (.int x1)], [(.int ((fX3_clear o2384) 3 4)), (.ref 53), (.ref 35)])) (h' := (107, (fX3_clear o2384), J, mm_rf 3 sp rr w nw)) 9 rfl ?_
        obtain ⟨o2390, eo2390, e⟩ := mm_bind e
        refine mm_T.call (t := 25) (as := [(.ref 35), (.ref 53), (.int ((fX3_clear o2384) 3 4))]) (f' := (49, [some (.ref 1), some (.int x1)], [])) rfl (tX3_addAll_53 (d + 18) n ((fX3_clear o2384) 3 4) (fX3_clear o2384) J 3 sp rr w nw o2390 eo2390) (fun v h hq => ?_)
        obtain ⟨rfl, rfl⟩ := hq
        refine mm_T.seg (f' := (50, [some (.ref 1), some (.int x1)], [(.int x1)])) (h' := (107, o2390, J, mm_rf 3 sp rr w nw)) 1 rfl ?_
        refine mm_T.br (c := x1 = 0) (a := ((53, [some (.ref 1), some (.int x1)], []), (107, o2390, J, mm_rf 3 sp rr w nw))) (b := ((63, [some (.ref 1), some (.int x1)], []), (107, o2390, J, mm_rf 3 sp rr w nw))) rfl (fun h2391 => ?_) (fun h2391 => ?_)
        · rw [if_pos h2391] at e
          refine mm_T.seg (f' := (70, [some (.ref 1), some (.int x1)], [(.int (o2390 50 5))])) (h' := (107, o2390, J, mm_rf 3 sp rr w nw)) 4 rfl ?_
          cases e
          exact mm_T.ret rfl ⟨rfl, rfl⟩
        · rw [if_neg h2391] at e
          refine mm_T.seg (f' := (70, [some (.ref 1), some (.int x1)], [(.int (o2390 50 6))])) (h' := (107, o2390, J, mm_rf 3 sp rr w nw)) 3 rfl ?_
          cases e
          exact mm_T.ret rfl ⟨rfl, rfl⟩
  · unfold fX11_mooring at e
    refine mm_T.seg (f' := (1, [some (.ref 1), some (.int x1)], [(.int x1)])) (h' := (107, I, J, mm_rf 19 sp rr w nw)) 1 rfl ?_
    refine mm_T.br (c := x1 < 0) (a := ((9, [some (.ref 1), some (.int x1)], []), (107, I, J, mm_rf 19 sp rr w nw))) (b := ((4, [some (.ref 1), some (.int x1)], []), (107, I, J, mm_rf 19 sp rr w nw))) rfl (fun h2382 => ?_) (fun h2382 => ?_)
    · rw [if_pos h2382] at e
      refine mm_T.seg (f' := (10, [some (.ref 1), some (.int x1)], [(.int (-1))])) (h' := (107, I, J, mm_rf 19 sp rr w nw)) 1 rfl ?_
      cases e
      exact mm_T.ret rfl ⟨rfl, rfl⟩
    · rw [if_neg h2382] at e
      refine mm_T.seg (f' := (6, [some (.ref 1), some (.int x1)], [(.int 1), (.int x1)])) (h' := (107, I, J, mm_rf 19 sp rr w nw)) 2 rfl ?_
      refine mm_T.br (c := 1 < x1) (a := ((9, [some (.ref 1), some (.int x1)], []), (107, I, J, mm_rf 19 sp rr w nw))) (b := ((11, [some (.ref 1), some (.int x1)], []), (107, I, J, mm_rf 19 sp rr w nw))) rfl (fun h2383 => ?_) (fun h2383 => ?_)
      · rw [if_pos h2383] at e
        refine mm_T.seg (f' := (10, [some (.ref 1), some (.int x1)], [(.int (-1))])) (h' := (107, I, J, mm_rf 19 sp rr w nw)) 1 rfl ?_
        cases e
        exact mm_T.ret rfl ⟨rfl, rfl⟩
      · rw [if_neg h2383] at e
        refine mm_T.seg (f' := (15, [some (.ref 1), some (.int x1)], [(.ref 50)])) (h' := (107, I, J, mm_rf 19 sp rr w nw)) 2 rfl ?_
        obtain ⟨o2384, eo2384, e⟩ := mm_bind e
        refine mm_T.call (t := 7) (as := [(.ref 50)]) (f' := (18, [some (.ref 1), some (.int x1)], [])) rfl (tX1_findMooring (d + 0) n I J 19 sp rr w nw (Or.inr rfl) o2384 eo2384) (fun v h hq => ?_)
        obtain ⟨rfl, rfl⟩ := hq
        refine mm_T.seg (f' := (22, [some (.ref 1), some (.int x1)], [(.ref 35)])) (h' := (107, o2384, J, mm_rf 19 sp rr w nw)) 2 rfl ?_
        refine mm_T.call (t := 23) (as := [(.ref 35)]) (f' := (25, [some (.ref 1), some (.int x1)], [])) rfl (tX3_clear (d + 19) o2384 J 19 sp rr w nw _ rfl) (fun v h hq => ?_)
        obtain ⟨rfl, rfl⟩ := hq
        refine mm_T.seg (f' := (46, [some (.ref 1), some (.int x1)], [(.int ((fX3_clear o2384) 19 4)), (.ref 53), (.ref 35)])) (h' := (107, (fX3_clear o2384), J, mm_rf 19 sp rr w nw)) 9 rfl ?_
        obtain ⟨o2390, eo2390, e⟩ := mm_bind e
        refine mm_T.call (t := 25) (as := [(.ref 35), (.ref 53), (.int ((fX3_clear o2384) 19 4))]) (f' := (49, [some (.ref 1), some (.int x1)], [])) rfl (tX3_addAll_53 (d + 18) n ((fX3_clear o2384) 19 4) (fX3_clear o2384) J 19 sp rr w nw o2390 eo2390) (fun v h hq => ?_)
        obtain ⟨rfl, rfl⟩ := hq
        refine mm_T.seg (f' := (50, [some (.ref 1), some (.int x1)], [(.int x1)])) (h' := (107, o2390, J, mm_rf 19 sp rr w nw)) 1 rfl ?_
        refine mm_T.br (c := x1 = 0) (a := ((53, [some (.ref 1), some (.int x1)], []), (107, o2390, J, mm_rf 19 sp rr w nw))) (b := ((63, [some (.ref 1), some (.int x1)], []), (107, o2390, J, mm_rf 19 sp rr w nw))) rfl (fun h2391 => ?_) (fun h2391 => ?_)
        · rw [if_pos h2391] at e
          refine mm_T.seg (f' := (70, [some (.ref 1), some (.int x1)], [(.int (o2390 50 5))])) (h' := (107, o2390, J, mm_rf 19 sp rr w nw)) 4 rfl ?_
          cases e
          exact mm_T.ret rfl ⟨rfl, rfl⟩
        · rw [if_neg h2391] at e
          refine mm_T.seg (f' := (70, [some (.ref 1), some (.int x1)], [(.int (o2390 50 6))])) (h' := (107, o2390, J, mm_rf 19 sp rr w nw)) 3 rfl ?_
          cases e
          exact mm_T.ret rfl ⟨rfl, rfl⟩
