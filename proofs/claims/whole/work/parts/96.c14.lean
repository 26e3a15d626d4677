set_option maxRecDepth 100000 in
set_option maxHeartbeats 4000000 in
theorem tbX11_guests_J34 (d : Nat) (I : Nat → Nat → Int32) (J : Nat → Nat → Int64) (rv sp rr w nw : Nat) (out : Int32 × (Nat → Nat → Int32)) (e : fX11_guests_J34 I = some out) : mm_T none (d + 5) 185 (34, [none, none, none, none], []) (107, I, J, mm_rf rv sp rr w nw) (fun v h => v = some (.int out.1) ∧ h = (107, out.2, J, mm_rf rv sp rr w nw)) := by
  unfold fX11_guests_J34 at e
  refine mm_T.seg (f' := (35, [none, none, none, none], [(.int (-1))])) (h' := (107, I, J, mm_rf rv sp rr w nw)) 1 rfl ?_
  cases e
  exact mm_T.ret rfl ⟨rfl, rfl⟩
set_option maxRecDepth 100000 in
set_option maxHeartbeats 4000000 in
theorem tX11_guests (d n : Nat) (x1 : Int32) (x2 : Int32) (I : Nat → Nat → Int32) (J : Nat → Nat → Int64) (rv sp rr w nw : Nat) (hrv : rv = 3 ∨ rv = 19) (out : Int32 × (Nat → Nat → Int32)) (e : fX11_guests n x1 x2 I rv = some out) : mm_T none (d + 5) 185 (mm_ent 185 [(.ref 1), (.int x1), (.int x2)]) (107, I, J, mm_rf rv sp rr w nw) (fun v h => v = some (.int out.1) ∧ h = (107, out.2, J, mm_rf rv sp rr w nw)) := by
  rcases hrv with rfl | rfl
  · unfold fX11_guests at e
    refine mm_T.seg (f' := (4, [some (.ref 1), some (.int x1), some (.int x2), none], [(.ref 35)])) (h' := (107, I, J, mm_rf 3 sp rr w nw)) 2 rfl ?_
    refine mm_T.call (t := 23) (as := [(.ref 35)]) (f' := (7, [some (.ref 1), some (.int x1), some (.int x2), none], [])) rfl (tX3_clear (d + 4) I J 3 sp rr w nw _ rfl) (fun v h hq => ?_)
    obtain ⟨rfl, rfl⟩ := hq
    refine mm_T.seg (f' := (12, [some (.ref 1), some (.int x1), some (.int x2), none], [(.int x1), (.ref 18)])) (h' := (107, (fX3_clear I), J, mm_rf 3 sp rr w nw)) 3 rfl ?_
    refine mm_T.call (t := 101) (as := [(.ref 18), (.int x1)]) (f' := (15, [some (.ref 1), some (.int x1), some (.int x2), none], [])) rfl (tX7_isBoard (d + 4) x1 (fX3_clear I) J 3 sp rr w nw (Or.inl rfl) _ rfl) (fun v h hq => ?_)
    obtain ⟨rfl, rfl⟩ := hq
    refine mm_T.br (c := (fX7_isBoard x1 (fX3_clear I) 3) = 0) (a := ((34, [some (.ref 1), some (.int x1), some (.int x2), none], []), (107, (fX3_clear I), J, mm_rf 3 sp rr w nw))) (b := ((18, [some (.ref 1), some (.int x1), some (.int x2), none], []), (107, (fX3_clear I), J, mm_rf 3 sp rr w nw))) rfl (fun h2392 => ?_) (fun h2392 => ?_)
    · rw [if_pos h2392] at e
      refine mm_T.mask [false, false, false, false] ?_
      exact tbX11_guests_J34 d (fX3_clear I) J 3 sp rr w nw out e
    · rw [if_neg h2392] at e
      refine mm_T.seg (f' := (23, [some (.ref 1), some (.int x1), some (.int x2), none], [(.int x2), (.ref 18)])) (h' := (107, (fX3_clear I), J, mm_rf 3 sp rr w nw)) 3 rfl ?_
      refine mm_T.call (t := 101) (as := [(.ref 18), (.int x2)]) (f' := (26, [some (.ref 1), some (.int x1), some (.int x2), none], [])) rfl (tX7_isBoard (d + 4) x2 (fX3_clear I) J 3 sp rr w nw (Or.inl rfl) _ rfl) (fun v h hq => ?_)
      obtain ⟨rfl, rfl⟩ := hq
      refine mm_T.br (c := (fX7_isBoard x2 (fX3_clear I) 3) = 0) (a := ((34, [some (.ref 1), some (.int x1), some (.int x2), none], []), (107, (fX3_clear I), J, mm_rf 3 sp rr w nw))) (b := ((29, [some (.ref 1), some (.int x1), some (.int x2), none], []), (107, (fX3_clear I), J, mm_rf 3 sp rr w nw))) rfl (fun h2393 => ?_) (fun h2393 => ?_)
      · rw [if_pos h2393] at e
        refine mm_T.mask [false, false, false, false] ?_
        exact tbX11_guests_J34 d (fX3_clear I) J 3 sp rr w nw out e
      · rw [if_neg h2393] at e
        refine mm_T.seg (f' := (31, [some (.ref 1), some (.int x1), some (.int x2), none], [(.int x2), (.int x1)])) (h' := (107, (fX3_clear I), J, mm_rf 3 sp rr w nw)) 2 rfl ?_
        refine mm_T.br (c := x1 = x2) (a := ((34, [some (.ref 1), some (.int x1), some (.int x2), none], []), (107, (fX3_clear I), J, mm_rf 3 sp rr w nw))) (b := ((36, [some (.ref 1), some (.int x1), some (.int x2), none], []), (107, (fX3_clear I), J, mm_rf 3 sp rr w nw))) rfl (fun h2394 => ?_) (fun h2394 => ?_)
        · rw [if_pos h2394] at e
          refine mm_T.mask [false, false, false, false] ?_
          exact tbX11_guests_J34 d (fX3_clear I) J 3 sp rr w nw out e
        · rw [if_neg h2394] at e
          refine mm_T.seg (f' := (42, [some (.ref 1), some (.int x1), some (.int x2), none], [(.int x2), (.int x1), (.ref 50)])) (h' := (107, (fX3_clear I), J, mm_rf 3 sp rr w nw)) 4 rfl ?_
          obtain ⟨o2395, eo2395, e⟩ := mm_bind e
          refine mm_T.call (t := 9) (as := [(.ref 50), (.int x1), (.int x2)]) (f' := (45, [some (.ref 1), some (.int x1), some (.int x2), none], [])) rfl (tX1_countRests (d + 0) n x1 x2 (fX3_clear I) J 3 sp rr w nw (Or.inl rfl) o2395 eo2395) (fun v h hq => ?_)
          obtain ⟨rfl, rfl⟩ := hq
          refine mm_T.seg (f' := (47, [some (.ref 1), some (.int x1), some (.int x2), some (.int o2395.1)], [(.int o2395.1)])) (h' := (107, o2395.2, J, mm_rf 3 sp rr w nw)) 2 rfl ?_
          refine mm_T.br (c := 0 < o2395.1) (a := ((50, [some (.ref 1), some (.int x1), some (.int x2), some (.int o2395.1)], []), (107, o2395.2, J, mm_rf 3 sp rr w nw))) (b := ((78, [some (.ref 1), some (.int x1), some (.int x2), some (.int o2395.1)], []), (107, o2395.2, J, mm_rf 3 sp rr w nw))) rfl (fun h2396 => ?_) (fun h2396 => ?_)
          · rw [if_pos h2396] at e
            refine mm_T.seg (f' := (61, [some (.ref 1), some (.int x1), some (.int x2), some (.int o2395.1)], [(.int (o2395.2 50 7)), (.ref 35)])) (h' := (107, o2395.2, J, mm_rf 3 sp rr w nw)) 5 rfl ?_
            obtain ⟨o2397, eo2397, e⟩ := mm_bind e
            refine mm_T.call (t := 24) (as := [(.ref 35), (.int (o2395.2 50 7))]) (f' := (64, [some (.ref 1), some (.int x1), some (.int x2), some (.int o2395.1)], [])) rfl (tX3_add (d + 4) (o2395.2 50 7) o2395.2 J 3 sp rr w nw o2397 eo2397) (fun v h hq => ?_)
            obtain ⟨rfl, rfl⟩ := hq
            refine mm_T.seg (f' := (75, [some (.ref 1), some (.int x1), some (.int x2), some (.int o2395.1)], [(.int (o2397 50 8)), (.ref 35)])) (h' := (107, o2397, J, mm_rf 3 sp rr w nw)) 5 rfl ?_
            obtain ⟨o2398, eo2398, e⟩ := mm_bind e
            refine mm_T.call (t := 24) (as := [(.ref 35), (.int (o2397 50 8))]) (f' := (78, [some (.ref 1), some (.int x1), some (.int x2), some (.int o2395.1)], [])) rfl (tX3_add (d + 4) (o2397 50 8) o2397 J 3 sp rr w nw o2398 eo2398) (fun v h hq => ?_)
            obtain ⟨rfl, rfl⟩ := hq
            refine mm_T.seg (f' := (79, [some (.ref 1), some (.int x1), some (.int x2), some (.int o2395.1)], [(.int o2395.1)])) (h' := (107, o2398, J, mm_rf 3 sp rr w nw)) 1 rfl ?_
            cases e
            exact mm_T.ret rfl ⟨rfl, rfl⟩
          · rw [if_neg h2396] at e
            refine mm_T.seg (f' := (79, [some (.ref 1), some (.int x1), some (.int x2), some (.int o2395.1)], [(.int o2395.1)])) (h' := (107, o2395.2, J, mm_rf 3 sp rr w nw)) 1 rfl ?_
            cases e
            exact mm_T.ret rfl ⟨rfl, rfl⟩
  · unfold fX11_guests at e
    refine mm_T.seg (f' := (4, [some (.ref 1), some (.int x1), some (.int x2), none], [(.ref 35)])) (h' := (107, I, J, mm_rf 19 sp rr w nw)) 2 rfl ?_
    refine mm_T.call (t := 23) (as := [(.ref 35)]) (f' := (7, [some (.ref 1), some (.int x1), some (.int x2), none], [])) rfl (tX3_clear (d + 4) I J 19 sp rr w nw _ rfl) (fun v h hq => ?_)
    obtain ⟨rfl, rfl⟩ := hq
    refine mm_T.seg (f' := (12, [some (.ref 1), some (.int x1), some (.int x2), none], [(.int x1), (.ref 18)])) (h' := (107, (fX3_clear I), J, mm_rf 19 sp rr w nw)) 3 rfl ?_
    refine mm_T.call (t := 101) (as := [(.ref 18), (.int x1)]) (f' := (15, [some (.ref 1), some (.int x1), some (.int x2), none], [])) rfl (tX7_isBoard (d + 4) x1 (fX3_clear I) J 19 sp rr w nw (Or.inr rfl) _ rfl) (fun v h hq => ?_)
    obtain ⟨rfl, rfl⟩ := hq
    refine mm_T.br (c := (fX7_isBoard x1 (fX3_clear I) 19) = 0) (a := ((34, [some (.ref 1), some (.int x1), some (.int x2), none], []), (107, (fX3_clear I), J, mm_rf 19 sp rr w nw))) (b := ((18, [some (.ref 1), some (.int x1), some (.int x2), none], []), (107, (fX3_clear I), J, mm_rf 19 sp rr w nw))) rfl (fun h2392 => ?_) (fun h2392 => ?_)
    · rw [if_pos h2392] at e
      refine mm_T.mask [false, false, false, false] ?_
      exact tbX11_guests_J34 d (fX3_clear I) J 19 sp rr w nw out e
    · rw [if_neg h2392] at e
      refine mm_T.seg (f' := (23, [some (.ref 1), some (.int x1), some (.int x2), none], [(.int x2), (.ref 18)])) (h' := (107, (fX3_clear I), J, mm_rf 19 sp rr w nw)) 3 rfl ?_
      refine mm_T.call (t := 101) (as := [(.ref 18), (.int x2)]) (f' := (26, [some (.ref 1), some (.int x1), some (.int x2), none], [])) rfl (tX7_isBoard (d + 4) x2 (fX3_clear I) J 19 sp rr w nw (Or.inr rfl) _ rfl) (fun v h hq => ?_)
      obtain ⟨rfl, rfl⟩ := hq
      refine mm_T.br (c := (fX7_isBoard x2 (fX3_clear I) 19) = 0) (a := ((34, [some (.ref 1), some (.int x1), some (.int x2), none], []), (107, (fX3_clear I), J, mm_rf 19 sp rr w nw))) (b := ((29, [some (.ref 1), some (.int x1), some (.int x2), none], []), (107, (fX3_clear I), J, mm_rf 19 sp rr w nw))) rfl (fun h2393 => ?_) (fun h2393 => ?_)
      · rw [if_pos h2393] at e
        refine mm_T.mask [false, false, false, false] ?_
        exact tbX11_guests_J34 d (fX3_clear I) J 19 sp rr w nw out e
      · rw [if_neg h2393] at e
        refine mm_T.seg (f' := (31, [some (.ref 1), some (.int x1), some (.int x2), none], [(.int x2), (.int x1)])) (h' := (107, (fX3_clear I), J, mm_rf 19 sp rr w nw)) 2 rfl ?_
        refine mm_T.br (c := x1 = x2) (a := ((34, [some (.ref 1), some (.int x1), some (.int x2), none], []), (107, (fX3_clear I), J, mm_rf 19 sp rr w nw))) (b := ((36, [some (.ref 1), some (.int x1), some (.int x2), none], []), (107, (fX3_clear I), J, mm_rf 19 sp rr w nw))) rfl (fun h2394 => ?_) (fun h2394 => ?_)
        · rw [if_pos h2394] at e
          refine mm_T.mask [false, false, false, false] ?_
          exact tbX11_guests_J34 d (fX3_clear I) J 19 sp rr w nw out e
        · rw [if_neg h2394] at e
          refine mm_T.seg (f' := (42, [some (.ref 1), some (.int x1), some (.int x2), none], [(.int x2), (.int x1), (.ref 50)])) (h' := (107, (fX3_clear I), J, mm_rf 19 sp rr w nw)) 4 rfl ?_
          obtain ⟨o2395, eo2395, e⟩ := mm_bind e
          refine mm_T.call (t := 9) (as := [(.ref 50), (.int x1), (.int x2)]) (f' := (45, [some (.ref 1), some (.int x1), some (.int x2), none], [])) rfl (tX1_countRests (d + 0) n x1 x2 (fX3_clear I) J 19 sp rr w nw (Or.inr rfl) o2395 eo2395) (fun v h hq => ?_)
          obtain ⟨rfl, rfl⟩ := hq
          refine mm_T.seg (f' := (47, [some (.ref 1), some (.int x1), some (.int x2), some (.int o2395.1)], [(.int o2395.1)])) (h' := (107, o2395.2, J, mm_rf 19 sp rr w nw)) 2 rfl ?_
          refine mm_T.br (c := 0 < o2395.1) (a := ((50, [some (.ref 1), some (.int x1), some (.int x2), some (.int o2395.1)], []), (107, o2395.2, J, mm_rf 19 sp rr w nw))) (b := ((78, [some (.ref 1), some (.int x1), some (.int x2), some (.int o2395.1)], []), (107, o2395.2, J, mm_rf 19 sp rr w nw))) rfl (fun h2396 => ?_) (fun h2396 => ?_)
          · rw [if_pos h2396] at e
            refine mm_T.seg (f' := (61, [some (.ref 1), some (.int x1), some (.int x2), some (.int o2395.1)], [(.int (o2395.2 50 7)), (.ref 35)])) (h' := (107, o2395.2, J, mm_rf 19 sp rr w nw)) 5 rfl ?_
            obtain ⟨o2397, eo2397, e⟩ := mm_bind e
            refine mm_T.call (t := 24) (as := [(.ref 35), (.int (o2395.2 50 7))]) (f' := (64, [some (.ref 1), some (.int x1), some (.int x2), some (.int o2395.1)], [])) rfl (tX3_add (d + 4) (o2395.2 50 7) o2395.2 J 19 sp rr w nw o2397 eo2397) (fun v h hq => ?_)
            obtain ⟨rfl, rfl⟩ := hq
            refine mm_T.seg (f' := (75, [some (.ref 1), some (.int x1), some (.int x2), some (.int o2395.1)], [(.int (o2397 50 8)), (.ref 35)])) (h' := (107, o2397, J, mm_rf 19 sp rr w nw)) 5 rfl ?_
            obtain ⟨o2398, eo2398, e⟩ := mm_bind e
            refine mm_T.call (t := 24) (as := [(.ref 35), (.int (o2397 50 8))]) (f' := (78, [some (.ref 1), some (.int x1), some (.int x2), some (.int o2395.1)], [])) rfl (tX3_add (d + 4) (o2397 50 8) o2397 J 19 sp rr w nw o2398 eo2398) (fun v h hq => ?_)
            obtain ⟨rfl, rfl⟩ := hq
            refine mm_T.seg (f' := (79, [some (.ref 1), some (.int x1), some (.int x2), some (.int o2395.1)], [(.int o2395.1)])) (h' := (107, o2398, J, mm_rf 19 sp rr w nw)) 1 rfl ?_
            cases e
            exact mm_T.ret rfl ⟨rfl, rfl⟩
          · rw [if_neg h2396] at e
            refine mm_T.seg (f' := (79, [some (.ref 1), some (.int x1), some (.int x2), some (.int o2395.1)], [(.int o2395.1)])) (h' := (107, o2395.2, J, mm_rf 19 sp rr w nw)) 1 rfl ?_
            cases e
            exact mm_T.ret rfl ⟨rfl, rfl⟩
set_option maxRecDepth 100000 in
set_option maxHeartbeats 4000000 in
theorem tX11_singe (d n : Nat) (x1 : Int32) (I : Nat → Nat → Int32) (J : Nat → Nat → Int64) (rv sp rr w nw : Nat) (hrv : rv = 3 ∨ rv = 19) (out : Int32 × (Nat → Nat → Int32)) (e : fX11_singe n x1 I rv = some out) : mm_T none (d + 4) 186 (mm_ent 186 [(.ref 1), (.int x1)]) (107, I, J, mm_rf rv sp rr w nw) (fun v h => v = some (.int out.1) ∧ h = (107, out.2, J, mm_rf rv sp rr w nw)) := by
  rcases hrv with rfl | rfl
  · unfold fX11_singe at e
    refine mm_T.seg (f' := (5, [some (.ref 1), some (.int x1)], [(.int x1), (.ref 18)])) (h' := (107, I, J, mm_rf 3 sp rr w nw)) 3 rfl ?_
    refine mm_T.call (t := 101) (as := [(.ref 18), (.int x1)]) (f' := (8, [some (.ref 1), some (.int x1)], [])) rfl (tX7_isBoard (d + 3) x1 I J 3 sp rr w nw (Or.inl rfl) _ rfl) (fun v h hq => ?_)
    obtain ⟨rfl, rfl⟩ := hq
    refine mm_T.br (c := (fX7_isBoard x1 I 3) = 0) (a := ((22, [some (.ref 1), some (.int x1)], []), (107, I, J, mm_rf 3 sp rr w nw))) (b := ((11, [some (.ref 1), some (.int x1)], []), (107, I, J, mm_rf 3 sp rr w nw))) rfl (fun h2399 => ?_) (fun h2399 => ?_)
    · rw [if_pos h2399] at e
      refine mm_T.seg (f' := (23, [some (.ref 1), some (.int x1)], [(.int (-1))])) (h' := (107, I, J, mm_rf 3 sp rr w nw)) 1 rfl ?_
      cases e
      exact mm_T.ret rfl ⟨rfl, rfl⟩
    · rw [if_neg h2399] at e
      refine mm_T.seg (f' := (16, [some (.ref 1), some (.int x1)], [(.int x1), (.ref 42)])) (h' := (107, I, J, mm_rf 3 sp rr w nw)) 3 rfl ?_
      obtain ⟨o2400, eo2400, e⟩ := mm_bind e
      refine mm_T.call (t := 129) (as := [(.ref 42), (.int x1)]) (f' := (19, [some (.ref 1), some (.int x1)], [])) rfl (tX8_strokesToScorch (d + 0) n x1 I J 3 sp rr w nw (Or.inl rfl) o2400 eo2400) (fun v h hq => ?_)
      obtain ⟨rfl, rfl⟩ := hq
      refine mm_T.seg (f' := (23, [some (.ref 1), some (.int x1)], [(.int o2400.1)])) (h' := (107, o2400.2, J, mm_rf 3 sp rr w nw)) 1 rfl ?_
      cases e
      exact mm_T.ret rfl ⟨rfl, rfl⟩
  · unfold fX11_singe at e
    refine mm_T.seg (f' := (5, [some (.ref 1), some (.int x1)], [(.int x1), (.ref 18)])) (h' := (107, I, J, mm_rf 19 sp rr w nw)) 3 rfl ?_
    refine mm_T.call (t := 101) (as := [(.ref 18), (.int x1)]) (f' := (8, [some (.ref 1), some (.int x1)], [])) rfl (tX7_isBoard (d + 3) x1 I J 19 sp rr w nw (Or.inr rfl) _ rfl) (fun v h hq => ?_)
    obtain ⟨rfl, rfl⟩ := hq
    refine mm_T.br (c := (fX7_isBoard x1 I 19) = 0) (a := ((22, [some (.ref 1), some (.int x1)], []), (107, I, J, mm_rf 19 sp rr w nw))) (b := ((11, [some (.ref 1), some (.int x1)], []), (107, I, J, mm_rf 19 sp rr w nw))) rfl (fun h2399 => ?_) (fun h2399 => ?_)
    · rw [if_pos h2399] at e
      refine mm_T.seg (f' := (23, [some (.ref 1), some (.int x1)], [(.int (-1))])) (h' := (107, I, J, mm_rf 19 sp rr w nw)) 1 rfl ?_
      cases e
      exact mm_T.ret rfl ⟨rfl, rfl⟩
    · rw [if_neg h2399] at e
      refine mm_T.seg (f' := (16, [some (.ref 1), some (.int x1)], [(.int x1), (.ref 42)])) (h' := (107, I, J, mm_rf 19 sp rr w nw)) 3 rfl ?_
      obtain ⟨o2400, eo2400, e⟩ := mm_bind e
      refine mm_T.call (t := 129) (as := [(.ref 42), (.int x1)]) (f' := (19, [some (.ref 1), some (.int x1)], [])) rfl (tX8_strokesToScorch (d + 0) n x1 I J 19 sp rr w nw (Or.inr rfl) o2400 eo2400) (fun v h hq => ?_)
      obtain ⟨rfl, rfl⟩ := hq
      refine mm_T.seg (f' := (23, [some (.ref 1), some (.int x1)], [(.int o2400.1)])) (h' := (107, o2400.2, J, mm_rf 19 sp rr w nw)) 1 rfl ?_
      cases e
      exact mm_T.ret rfl ⟨rfl, rfl⟩
set_option maxRecDepth 100000 in
set_option maxHeartbeats 4000000 in
theorem tX11_over (d n : Nat) (I : Nat → Nat → Int32) (J : Nat → Nat → Int64) (rv sp rr w nw : Nat) (hrv : rv = 3 ∨ rv = 19) (out : Int32) (e : fX11_over n I rv = some out) : mm_T none (d + 3) 188 (mm_ent 188 [(.ref 1)]) (107, I, J, mm_rf rv sp rr w nw) (fun v h => v = some (.int out) ∧ h = (107, I, J, mm_rf rv sp rr w nw)) := by
  rcases hrv with rfl | rfl
  · unfold fX11_over at e
    refine mm_T.seg (f' := (6, [some (.ref 1)], [(.int (-2)), (.ref 18)])) (h' := (107, I, J, mm_rf 3 sp rr w nw)) 3 rfl ?_
    obtain ⟨o2412, eo2412, e⟩ := mm_bind e
    refine mm_T.call (t := 116) (as := [(.ref 18), (.int (-2))]) (f' := (9, [some (.ref 1)], [])) rfl (tX7_loadsAt (d + 0) n (-2) I J 3 sp rr w nw (Or.inl rfl) o2412 eo2412) (fun v h hq => ?_)
    obtain ⟨rfl, rfl⟩ := hq
    cases e
    exact mm_T.ret rfl ⟨rfl, rfl⟩
  · unfold fX11_over at e
    refine mm_T.seg (f' := (6, [some (.ref 1)], [(.int (-2)), (.ref 18)])) (h' := (107, I, J, mm_rf 19 sp rr w nw)) 3 rfl ?_
    obtain ⟨o2412, eo2412, e⟩ := mm_bind e
    refine mm_T.call (t := 116) (as := [(.ref 18), (.int (-2))]) (f' := (9, [some (.ref 1)], [])) rfl (tX7_loadsAt (d + 0) n (-2) I J 19 sp rr w nw (Or.inr rfl) o2412 eo2412) (fun v h hq => ?_)
    obtain ⟨rfl, rfl⟩ := hq
    cases e
    exact mm_T.ret rfl ⟨rfl, rfl⟩
set_option maxRecDepth 100000 in
set_option maxHeartbeats 4000000 in
theorem tX11_left (d n : Nat) (I : Nat → Nat → Int32) (J : Nat → Nat → Int64) (rv sp rr w nw : Nat) (hrv : rv = 3 ∨ rv = 19) (out : Int32) (e : fX11_left n I rv = some out) : mm_T none (d + 3) 189 (mm_ent 189 [(.ref 1)]) (107, I, J, mm_rf rv sp rr w nw) (fun v h => v = some (.int out) ∧ h = (107, I, J, mm_rf rv sp rr w nw)) := by
  rcases hrv with rfl | rfl
  · unfold fX11_left at e
    refine mm_T.seg (f' := (8, [some (.ref 1)], [(.ref 18), (.ref 45)])) (h' := (107, I, J, mm_rf 3 sp rr w nw)) 4 rfl ?_
    refine mm_T.call (t := 115) (as := [(.ref 18)]) (f' := (11, [some (.ref 1)], [(.ref 45)])) rfl (tX7_allLoads (d + 2) I J 3 sp rr w nw (Or.inl rfl) _ rfl) (fun v h hq => ?_)
    obtain ⟨rfl, rfl⟩ := hq
    refine mm_T.seg (f' := (17, [some (.ref 1)], [(.int (-2)), (.ref 18), (.int (fX7_allLoads I 3)), (.ref 45)])) (h' := (107, I, J, mm_rf 3 sp rr w nw)) 3 rfl ?_
    obtain ⟨o2413, eo2413, e⟩ := mm_bind e
    refine mm_T.call (t := 116) (as := [(.ref 18), (.int (-2))]) (f' := (20, [some (.ref 1)], [(.int (fX7_allLoads I 3)), (.ref 45)])) rfl (tX7_loadsAt (d + 0) n (-2) I J 3 sp rr w nw (Or.inl rfl) o2413 eo2413) (fun v h hq => ?_)
    obtain ⟨rfl, rfl⟩ := hq
    refine mm_T.seg (f' := (23, [some (.ref 1)], [(.int ((fX7_allLoads I 3) &&& (o2413 ^^^ (-1)))), (.ref 45)])) (h' := (107, I, J, mm_rf 3 sp rr w nw)) 3 rfl ?_
    obtain ⟨o2414, eo2414, e⟩ := mm_bind e
    refine mm_T.call (t := 131) (as := [(.ref 45), (.int ((fX7_allLoads I 3) &&& (o2413 ^^^ (-1))))]) (f' := (26, [some (.ref 1)], [])) rfl (tX9_widthOf (d + 0) n ((fX7_allLoads I 3) &&& (o2413 ^^^ (-1))) I J 3 sp rr w nw (Or.inl rfl) o2414 eo2414) (fun v h hq => ?_)
    obtain ⟨rfl, rfl⟩ := hq
    cases e
    exact mm_T.ret rfl ⟨rfl, rfl⟩
  · unfold fX11_left at e
    refine mm_T.seg (f' := (8, [some (.ref 1)], [(.ref 18), (.ref 45)])) (h' := (107, I, J, mm_rf 19 sp rr w nw)) 4 rfl ?_
    refine mm_T.call (t := 115) (as := [(.ref 18)]) (f' := (11, [some (.ref 1)], [(.ref 45)])) rfl (tX7_allLoads (d + 2) I J 19 sp rr w nw (Or.inr rfl) _ rfl) (fun v h hq => ?_)
    obtain ⟨rfl, rfl⟩ := hq
    refine mm_T.seg (f' := (17, [some (.ref 1)], [(.int (-2)), (.ref 18), (.int (fX7_allLoads I 19)), (.ref 45)])) (h' := (107, I, J, mm_rf 19 sp rr w nw)) 3 rfl ?_
    obtain ⟨o2413, eo2413, e⟩ := mm_bind e
    refine mm_T.call (t := 116) (as := [(.ref 18), (.int (-2))]) (f' := (20, [some (.ref 1)], [(.int (fX7_allLoads I 19)), (.ref 45)])) rfl (tX7_loadsAt (d + 0) n (-2) I J 19 sp rr w nw (Or.inr rfl) o2413 eo2413) (fun v h hq => ?_)
    obtain ⟨rfl, rfl⟩ := hq
    refine mm_T.seg (f' := (23, [some (.ref 1)], [(.int ((fX7_allLoads I 19) &&& (o2413 ^^^ (-1)))), (.ref 45)])) (h' := (107, I, J, mm_rf 19 sp rr w nw)) 3 rfl ?_
    obtain ⟨o2414, eo2414, e⟩ := mm_bind e
    refine mm_T.call (t := 131) (as := [(.ref 45), (.int ((fX7_allLoads I 19) &&& (o2413 ^^^ (-1))))]) (f' := (26, [some (.ref 1)], [])) rfl (tX9_widthOf (d + 0) n ((fX7_allLoads I 19) &&& (o2413 ^^^ (-1))) I J 19 sp rr w nw (Or.inr rfl) o2414 eo2414) (fun v h hq => ?_)
    obtain ⟨rfl, rfl⟩ := hq
    cases e
    exact mm_T.ret rfl ⟨rfl, rfl⟩
set_option maxRecDepth 100000 in
set_option maxHeartbeats 4000000 in
theorem tlX11_pulled_L4 (d : Nat) (Q : Option Value → mm_H → Prop) : ∀ (n : Nat) (y1 : Int32) (y2 : Int32) (I : Nat → Nat → Int32) (J : Nat → Nat → Int64) (rv sp rr w nw : Nat), (rv = 3 ∨ rv = 19) → ∀ (out : Int32), fX11_pulled_L4 n y1 y2 I rv = some out → mm_T none (d + 3) 190 (59, [none, some (.int out), none], []) (107, I, J, mm_rf rv sp rr w nw) Q → mm_T none (d + 3) 190 (4, [some (.ref 1), some (.int y1), some (.int y2)], []) (107, I, J, mm_rf rv sp rr w nw) Q := by
  intro n
  induction n with
  | zero =>
    intro y1 y2 I J rv sp rr w nw hrv out e k
    rw [fX11_pulled_L4] at e; cases e
  | succ n ih =>
    intro y1 y2 I J rv sp rr w nw hrv out e k
    rcases hrv with rfl | rfl
    · rw [fX11_pulled_L4] at e
      refine mm_T.seg (f' := (15, [some (.ref 1), some (.int y1), some (.int y2)], [(.int (I 3 4)), (.int y2)])) (h' := (107, I, J, mm_rf 3 sp rr w nw)) 5 rfl ?_
      refine mm_T.br (c := y2 < (I 3 4)) (a := ((18, [some (.ref 1), some (.int y1), some (.int y2)], []), (107, I, J, mm_rf 3 sp rr w nw))) (b := ((59, [some (.ref 1), some (.int y1), some (.int y2)], []), (107, I, J, mm_rf 3 sp rr w nw))) rfl (fun h2417 => ?_) (fun h2417 => ?_)
      · rw [if_pos h2417] at e
        refine mm_T.seg (f' := (30, [some (.ref 1), some (.int y1), some (.int y2)], [(.int y2), (.ref 18), (.ref 3)])) (h' := (107, I, J, mm_rf 3 sp rr w nw)) 6 rfl ?_
        refine mm_T.call (t := 105) (as := [(.ref 18), (.int y2)]) (f' := (33, [some (.ref 1), some (.int y1), some (.int y2)], [(.ref 3)])) rfl (tX7_columnOf (d + 0) y2 I J 3 sp rr w nw _ rfl) (fun v h hq => ?_)
        obtain ⟨rfl, rfl⟩ := hq
        refine mm_T.seg (f' := (38, [some (.ref 1), some (.int y1), some (.int y2)], [(.int y2), (.ref 18), (.int (fX7_columnOf y2 I)), (.ref 3)])) (h' := (107, I, J, mm_rf 3 sp rr w nw)) 3 rfl ?_
        refine mm_T.call (t := 106) (as := [(.ref 18), (.int y2)]) (f' := (41, [some (.ref 1), some (.int y1), some (.int y2)], [(.int (fX7_columnOf y2 I)), (.ref 3)])) rfl (tX7_rowOf (d + 0) y2 I J 3 sp rr w nw _ rfl) (fun v h hq => ?_)
        obtain ⟨rfl, rfl⟩ := hq
        refine mm_T.call (t := 68) (as := [(.ref 3), (.int (fX7_columnOf y2 I)), (.int (fX7_rowOf y2 I))]) (f' := (44, [some (.ref 1), some (.int y1), some (.int y2)], [])) rfl (tX5_currentAt (d + 1) (fX7_columnOf y2 I) (fX7_rowOf y2 I) 3 I J 3 sp rr w nw (Or.inl rfl) _ rfl) (fun v h hq => ?_)
        obtain ⟨rfl, rfl⟩ := hq
        refine mm_T.br (c := 0 < (fX5_currentAt (fX7_columnOf y2 I) (fX7_rowOf y2 I) 3 I)) (a := ((47, [some (.ref 1), some (.int y1), some (.int y2)], []), (107, I, J, mm_rf 3 sp rr w nw))) (b := ((53, [some (.ref 1), some (.int y1), some (.int y2)], []), (107, I, J, mm_rf 3 sp rr w nw))) rfl (fun h2418 => ?_) (fun h2418 => ?_)
        · rw [if_pos h2418] at e
          refine mm_T.seg (f' := (4, [some (.ref 1), some (.int (y1 ||| ((1 : Int32) <<< (y2 &&& 31)))), some (.int (y2 + 1))], [])) (h' := (107, I, J, mm_rf 3 sp rr w nw)) 8 rfl ?_
          refine mm_T.mask [true, true, true] ?_
          exact ih (y1 ||| ((1 : Int32) <<< (y2 &&& 31))) (y2 + 1) I J 3 sp rr w nw (Or.inl rfl) out e k
        · rw [if_neg h2418] at e
          refine mm_T.seg (f' := (4, [some (.ref 1), some (.int y1), some (.int (y2 + 1))], [])) (h' := (107, I, J, mm_rf 3 sp rr w nw)) 2 rfl ?_
          refine mm_T.mask [true, true, true] ?_
          exact ih y1 (y2 + 1) I J 3 sp rr w nw (Or.inl rfl) out e k
      · rw [if_neg h2417] at e
        cases e
        refine mm_T.mask [false, true, false] ?_
        exact k
    · rw [fX11_pulled_L4] at e
      refine mm_T.seg (f' := (15, [some (.ref 1), some (.int y1), some (.int y2)], [(.int (I 19 4)), (.int y2)])) (h' := (107, I, J, mm_rf 19 sp rr w nw)) 5 rfl ?_
      refine mm_T.br (c := y2 < (I 19 4)) (a := ((18, [some (.ref 1), some (.int y1), some (.int y2)], []), (107, I, J, mm_rf 19 sp rr w nw))) (b := ((59, [some (.ref 1), some (.int y1), some (.int y2)], []), (107, I, J, mm_rf 19 sp rr w nw))) rfl (fun h2417 => ?_) (fun h2417 => ?_)
      · rw [if_pos h2417] at e
        refine mm_T.seg (f' := (30, [some (.ref 1), some (.int y1), some (.int y2)], [(.int y2), (.ref 18), (.ref 19)])) (h' := (107, I, J, mm_rf 19 sp rr w nw)) 6 rfl ?_
        refine mm_T.call (t := 105) (as := [(.ref 18), (.int y2)]) (f' := (33, [some (.ref 1), some (.int y1), some (.int y2)], [(.ref 19)])) rfl (tX7_columnOf (d + 0) y2 I J 19 sp rr w nw _ rfl) (fun v h hq => ?_)
        obtain ⟨rfl, rfl⟩ := hq
        refine mm_T.seg (f' := (38, [some (.ref 1), some (.int y1), some (.int y2)], [(.int y2), (.ref 18), (.int (fX7_columnOf y2 I)), (.ref 19)])) (h' := (107, I, J, mm_rf 19 sp rr w nw)) 3 rfl ?_
        refine mm_T.call (t := 106) (as := [(.ref 18), (.int y2)]) (f' := (41, [some (.ref 1), some (.int y1), some (.int y2)], [(.int (fX7_columnOf y2 I)), (.ref 19)])) rfl (tX7_rowOf (d + 0) y2 I J 19 sp rr w nw _ rfl) (fun v h hq => ?_)
        obtain ⟨rfl, rfl⟩ := hq
        refine mm_T.call (t := 68) (as := [(.ref 19), (.int (fX7_columnOf y2 I)), (.int (fX7_rowOf y2 I))]) (f' := (44, [some (.ref 1), some (.int y1), some (.int y2)], [])) rfl (tX5_currentAt (d + 1) (fX7_columnOf y2 I) (fX7_rowOf y2 I) 19 I J 19 sp rr w nw (Or.inr rfl) _ rfl) (fun v h hq => ?_)
        obtain ⟨rfl, rfl⟩ := hq
        refine mm_T.br (c := 0 < (fX5_currentAt (fX7_columnOf y2 I) (fX7_rowOf y2 I) 19 I)) (a := ((47, [some (.ref 1), some (.int y1), some (.int y2)], []), (107, I, J, mm_rf 19 sp rr w nw))) (b := ((53, [some (.ref 1), some (.int y1), some (.int y2)], []), (107, I, J, mm_rf 19 sp rr w nw))) rfl (fun h2418 => ?_) (fun h2418 => ?_)
        · rw [if_pos h2418] at e
          refine mm_T.seg (f' := (4, [some (.ref 1), some (.int (y1 ||| ((1 : Int32) <<< (y2 &&& 31)))), some (.int (y2 + 1))], [])) (h' := (107, I, J, mm_rf 19 sp rr w nw)) 8 rfl ?_
          refine mm_T.mask [true, true, true] ?_
          exact ih (y1 ||| ((1 : Int32) <<< (y2 &&& 31))) (y2 + 1) I J 19 sp rr w nw (Or.inr rfl) out e k
        · rw [if_neg h2418] at e
          refine mm_T.seg (f' := (4, [some (.ref 1), some (.int y1), some (.int (y2 + 1))], [])) (h' := (107, I, J, mm_rf 19 sp rr w nw)) 2 rfl ?_
          refine mm_T.mask [true, true, true] ?_
          exact ih y1 (y2 + 1) I J 19 sp rr w nw (Or.inr rfl) out e k
      · rw [if_neg h2417] at e
        cases e
        refine mm_T.mask [false, true, false] ?_
        exact k
set_option maxRecDepth 100000 in
set_option maxHeartbeats 4000000 in
theorem tX11_pulled (d n : Nat) (I : Nat → Nat → Int32) (J : Nat → Nat → Int64) (rv sp rr w nw : Nat) (hrv : rv = 3 ∨ rv = 19) (out : Int32) (e : fX11_pulled n I rv = some out) : mm_T none (d + 3) 190 (mm_ent 190 [(.ref 1)]) (107, I, J, mm_rf rv sp rr w nw) (fun v h => v = some (.int out) ∧ h = (107, I, J, mm_rf rv sp rr w nw)) := by
  rcases hrv with rfl | rfl
  · unfold fX11_pulled at e
    refine mm_T.seg (f' := (4, [some (.ref 1), some (.int 0), some (.int 0)], [])) (h' := (107, I, J, mm_rf 3 sp rr w nw)) 4 rfl ?_
    refine mm_T.mask [true, true, true] ?_
    obtain ⟨o2419, eo2419, e⟩ := mm_bind e
    refine tlX11_pulled_L4 d _ n 0 0 I J 3 sp rr w nw (Or.inl rfl) o2419 eo2419 ?_
    refine mm_T.seg (f' := (60, [none, some (.int o2419), none], [(.int o2419)])) (h' := (107, I, J, mm_rf 3 sp rr w nw)) 1 rfl ?_
    cases e
    exact mm_T.ret rfl ⟨rfl, rfl⟩
  · unfold fX11_pulled at e
    refine mm_T.seg (f' := (4, [some (.ref 1), some (.int 0), some (.int 0)], [])) (h' := (107, I, J, mm_rf 19 sp rr w nw)) 4 rfl ?_
    refine mm_T.mask [true, true, true] ?_
    obtain ⟨o2419, eo2419, e⟩ := mm_bind e
    refine tlX11_pulled_L4 d _ n 0 0 I J 19 sp rr w nw (Or.inr rfl) o2419 eo2419 ?_
    refine mm_T.seg (f' := (60, [none, some (.int o2419), none], [(.int o2419)])) (h' := (107, I, J, mm_rf 19 sp rr w nw)) 1 rfl ?_
    cases e
    exact mm_T.ret rfl ⟨rfl, rfl⟩
set_option maxRecDepth 100000 in
set_option maxHeartbeats 4000000 in
theorem tlX11_hottest_L6 (d : Nat) (Q : Option Value → mm_H → Prop) : ∀ (n : Nat) (y1 : Int32) (y2 : Int32) (y3 : Int32) (I : Nat → Nat → Int32) (J : Nat → Nat → Int64) (rv sp rr w nw : Nat), (rv = 3 ∨ rv = 19) → ∀ (out : Int32), fX11_hottest_L6 n y1 y2 y3 I rv = some out → mm_T none (d + 3) 191 (64, [none, some (.int out), none, none, none], []) (107, I, J, mm_rf rv sp rr w nw) Q → mm_T none (d + 3) 191 (6, [some (.ref 1), some (.int y1), some (.int y2), some (.int y3), none], []) (107, I, J, mm_rf rv sp rr w nw) Q := by
  intro n
  induction n with
  | zero =>
    intro y1 y2 y3 I J rv sp rr w nw hrv out e k
    rw [fX11_hottest_L6] at e; cases e
  | succ n ih =>
    intro y1 y2 y3 I J rv sp rr w nw hrv out e k
    rcases hrv with rfl | rfl
    · rw [fX11_hottest_L6] at e
      refine mm_T.seg (f' := (17, [some (.ref 1), some (.int y1), some (.int y2), some (.int y3), none], [(.int (I 3 4)), (.int y3)])) (h' := (107, I, J, mm_rf 3 sp rr w nw)) 5 rfl ?_
      refine mm_T.br (c := y3 < (I 3 4)) (a := ((20, [some (.ref 1), some (.int y1), some (.int y2), some (.int y3), none], []), (107, I, J, mm_rf 3 sp rr w nw))) (b := ((64, [some (.ref 1), some (.int y1), some (.int y2), some (.int y3), none], []), (107, I, J, mm_rf 3 sp rr w nw))) rfl (fun h2423 => ?_) (fun h2423 => ?_)
      · rw [if_pos h2423] at e
        refine mm_T.seg (f' := (28, [some (.ref 1), some (.int y1), some (.int y2), some (.int y3), none], [(.int y3), (.ref 3)])) (h' := (107, I, J, mm_rf 3 sp rr w nw)) 4 rfl ?_
        refine mm_T.call (t := 79) (as := [(.ref 3), (.int y3)]) (f' := (31, [some (.ref 1), some (.int y1), some (.int y2), some (.int y3), none], [])) rfl (tX5_bearsOf (d + 1) y3 3 I J 3 sp rr w nw (Or.inl rfl) _ rfl) (fun v h hq => ?_)
        obtain ⟨rfl, rfl⟩ := hq
        refine mm_T.seg (f' := (36, [some (.ref 1), some (.int y1), some (.int y2), some (.int y3), none], [(.int y3), (.ref 18), (.int (fX5_bearsOf y3 3 I))])) (h' := (107, I, J, mm_rf 3 sp rr w nw)) 3 rfl ?_
        refine mm_T.call (t := 107) (as := [(.ref 18), (.int y3)]) (f' := (39, [some (.ref 1), some (.int y1), some (.int y2), some (.int y3), none], [(.int (fX5_bearsOf y3 3 I))])) rfl (tX7_heatOf (d + 0) y3 I J 3 sp rr w nw _ rfl) (fun v h hq => ?_)
        obtain ⟨rfl, rfl⟩ := hq
        refine mm_T.seg (f' := (44, [some (.ref 1), some (.int y1), some (.int y2), some (.int y3), some (.int ((fX5_bearsOf y3 3 I) - (fX7_heatOf y3 I)))], [(.int (-1)), (.int y1)])) (h' := (107, I, J, mm_rf 3 sp rr w nw)) 4 rfl ?_
        refine mm_T.br (c := y1 = (-1)) (a := ((53, [some (.ref 1), some (.int y1), some (.int y2), some (.int y3), some (.int ((fX5_bearsOf y3 3 I) - (fX7_heatOf y3 I)))], []), (107, I, J, mm_rf 3 sp rr w nw))) (b := ((47, [some (.ref 1), some (.int y1), some (.int y2), some (.int y3), some (.int ((fX5_bearsOf y3 3 I) - (fX7_heatOf y3 I)))], []), (107, I, J, mm_rf 3 sp rr w nw))) rfl (fun h2424 => ?_) (fun h2424 => ?_)
        · rw [if_pos h2424] at e
          refine mm_T.seg (f' := (6, [some (.ref 1), some (.int y3), some (.int ((fX5_bearsOf y3 3 I) - (fX7_heatOf y3 I))), some (.int (y3 + 1)), some (.int ((fX5_bearsOf y3 3 I) - (fX7_heatOf y3 I)))], [])) (h' := (107, I, J, mm_rf 3 sp rr w nw)) 6 rfl ?_
          refine mm_T.mask [true, true, true, true, false] ?_
          exact ih y3 ((fX5_bearsOf y3 3 I) - (fX7_heatOf y3 I)) (y3 + 1) I J 3 sp rr w nw (Or.inl rfl) out e k
        · rw [if_neg h2424] at e
          refine mm_T.seg (f' := (50, [some (.ref 1), some (.int y1), some (.int y2), some (.int y3), some (.int ((fX5_bearsOf y3 3 I) - (fX7_heatOf y3 I)))], [(.int y2), (.int ((fX5_bearsOf y3 3 I) - (fX7_heatOf y3 I)))])) (h' := (107, I, J, mm_rf 3 sp rr w nw)) 2 rfl ?_
          refine mm_T.br (c := ((fX5_bearsOf y3 3 I) - (fX7_heatOf y3 I)) < y2) (a := ((53, [some (.ref 1), some (.int y1), some (.int y2), some (.int y3), some (.int ((fX5_bearsOf y3 3 I) - (fX7_heatOf y3 I)))], []), (107, I, J, mm_rf 3 sp rr w nw))) (b := ((58, [some (.ref 1), some (.int y1), some (.int y2), some (.int y3), some (.int ((fX5_bearsOf y3 3 I) - (fX7_heatOf y3 I)))], []), (107, I, J, mm_rf 3 sp rr w nw))) rfl (fun h2425 => ?_) (fun h2425 => ?_)
          · rw [if_pos h2425] at e
            refine mm_T.seg (f' := (6, [some (.ref 1), some (.int y3), some (.int ((fX5_bearsOf y3 3 I) - (fX7_heatOf y3 I))), some (.int (y3 + 1)), some (.int ((fX5_bearsOf y3 3 I) - (fX7_heatOf y3 I)))], [])) (h' := (107, I, J, mm_rf 3 sp rr w nw)) 6 rfl ?_
            refine mm_T.mask [true, true, true, true, false] ?_
            exact ih y3 ((fX5_bearsOf y3 3 I) - (fX7_heatOf y3 I)) (y3 + 1) I J 3 sp rr w nw (Or.inl rfl) out e k
          · rw [if_neg h2425] at e
            refine mm_T.seg (f' := (6, [some (.ref 1), some (.int y1), some (.int y2), some (.int (y3 + 1)), some (.int ((fX5_bearsOf y3 3 I) - (fX7_heatOf y3 I)))], [])) (h' := (107, I, J, mm_rf 3 sp rr w nw)) 2 rfl ?_
            refine mm_T.mask [true, true, true, true, false] ?_
            exact ih y1 y2 (y3 + 1) I J 3 sp rr w nw (Or.inl rfl) out e k
      · rw [if_neg h2423] at e
        cases e
        refine mm_T.mask [false, true, false, false, false] ?_
        exact k
    · rw [fX11_hottest_L6] at e
      refine mm_T.seg (f' := (17, [some (.ref 1), some (.int y1), some (.int y2), some (.int y3), none], [(.int (I 19 4)), (.int y3)])) (h' := (107, I, J, mm_rf 19 sp rr w nw)) 5 rfl ?_
      refine mm_T.br (c := y3 < (I 19 4)) (a := ((20, [some (.ref 1), some (.int y1), some (.int y2), some (.int y3), none], []), (107, I, J, mm_rf 19 sp rr w nw))) (b := ((64, [some (.ref 1), some (.int y1), some (.int y2), some (.int y3), none], []), (107, I, J, mm_rf 19 sp rr w nw))) rfl (fun h2423 => ?_) (fun h2423 => ?_)
      · rw [if_pos h2423] at e
        refine mm_T.seg (f' := (28, [some (.ref 1), some (.int y1), some (.int y2), some (.int y3), none], [(.int y3), (.ref 19)])) (h' := (107, I, J, mm_rf 19 sp rr w nw)) 4 rfl ?_
        refine mm_T.call (t := 79) (as := [(.ref 19), (.int y3)]) (f' := (31, [some (.ref 1), some (.int y1), some (.int y2), some (.int y3), none], [])) rfl (tX5_bearsOf (d + 1) y3 19 I J 19 sp rr w nw (Or.inr rfl) _ rfl) (fun v h hq => ?_)
        obtain ⟨rfl, rfl⟩ := hq
        refine mm_T.seg (f' := (36, [some (.ref 1), some (.int y1), some (.int y2), some (.int y3), none], [(.int y3), (.ref 18), (.int (fX5_bearsOf y3 19 I))])) (h' := (107, I, J, mm_rf 19 sp rr w nw)) 3 rfl ?_
        refine mm_T.call (t := 107) (as := [(.ref 18), (.int y3)]) (f' := (39, [some (.ref 1), some (.int y1), some (.int y2), some (.int y3), none], [(.int (fX5_bearsOf y3 19 I))])) rfl (tX7_heatOf (d + 0) y3 I J 19 sp rr w nw _ rfl) (fun v h hq => ?_)
        obtain ⟨rfl, rfl⟩ := hq
        refine mm_T.seg (f' := (44, [some (.ref 1), some (.int y1), some (.int y2), some (.int y3), some (.int ((fX5_bearsOf y3 19 I) - (fX7_heatOf y3 I)))], [(.int (-1)), (.int y1)])) (h' := (107, I, J, mm_rf 19 sp rr w nw)) 4 rfl ?_
        refine mm_T.br (c := y1 = (-1)) (a := ((53, [some (.ref 1), some (.int y1), some (.int y2), some (.int y3), some (.int ((fX5_bearsOf y3 19 I) - (fX7_heatOf y3 I)))], []), (107, I, J, mm_rf 19 sp rr w nw))) (b := ((47, [some (.ref 1), some (.int y1), some (.int y2), some (.int y3), some (.int ((fX5_bearsOf y3 19 I) - (fX7_heatOf y3 I)))], []), (107, I, J, mm_rf 19 sp rr w nw))) rfl (fun h2424 => ?_) (fun h2424 => ?_)
        · rw [if_pos h2424] at e
          refine mm_T.seg (f' := (6, [some (.ref 1), some (.int y3), some (.int ((fX5_bearsOf y3 19 I) - (fX7_heatOf y3 I))), some (.int (y3 + 1)), some (.int ((fX5_bearsOf y3 19 I) - (fX7_heatOf y3 I)))], [])) (h' := (107, I, J, mm_rf 19 sp rr w nw)) 6 rfl ?_
          refine mm_T.mask [true, true, true, true, false] ?_
          exact ih y3 ((fX5_bearsOf y3 19 I) - (fX7_heatOf y3 I)) (y3 + 1) I J 19 sp rr w nw (Or.inr rfl) out e k
        · rw [if_neg h2424] at e
          refine mm_T.seg (f' := (50, [some (.ref 1), some (.int y1), some (.int y2), some (.int y3), some (.int ((fX5_bearsOf y3 19 I) - (fX7_heatOf y3 I)))], [(.int y2), (.int ((fX5_bearsOf y3 19 I) - (fX7_heatOf y3 I)))])) (h' := (107, I, J, mm_rf 19 sp rr w nw)) 2 rfl ?_
          refine mm_T.br (c := ((fX5_bearsOf y3 19 I) - (fX7_heatOf y3 I)) < y2) (a := ((53, [some (.ref 1), some (.int y1), some (.int y2), some (.int y3), some (.int ((fX5_bearsOf y3 19 I) - (fX7_heatOf y3 I)))], []), (107, I, J, mm_rf 19 sp rr w nw))) (b := ((58, [some (.ref 1), some (.int y1), some (.int y2), some (.int y3), some (.int ((fX5_bearsOf y3 19 I) - (fX7_heatOf y3 I)))], []), (107, I, J, mm_rf 19 sp rr w nw))) rfl (fun h2425 => ?_) (fun h2425 => ?_)
          · rw [if_pos h2425] at e
            refine mm_T.seg (f' := (6, [some (.ref 1), some (.int y3), some (.int ((fX5_bearsOf y3 19 I) - (fX7_heatOf y3 I))), some (.int (y3 + 1)), some (.int ((fX5_bearsOf y3 19 I) - (fX7_heatOf y3 I)))], [])) (h' := (107, I, J, mm_rf 19 sp rr w nw)) 6 rfl ?_
            refine mm_T.mask [true, true, true, true, false] ?_
            exact ih y3 ((fX5_bearsOf y3 19 I) - (fX7_heatOf y3 I)) (y3 + 1) I J 19 sp rr w nw (Or.inr rfl) out e k
          · rw [if_neg h2425] at e
            refine mm_T.seg (f' := (6, [some (.ref 1), some (.int y1), some (.int y2), some (.int (y3 + 1)), some (.int ((fX5_bearsOf y3 19 I) - (fX7_heatOf y3 I)))], [])) (h' := (107, I, J, mm_rf 19 sp rr w nw)) 2 rfl ?_
            refine mm_T.mask [true, true, true, true, false] ?_
            exact ih y1 y2 (y3 + 1) I J 19 sp rr w nw (Or.inr rfl) out e k
      · rw [if_neg h2423] at e
        cases e
        refine mm_T.mask [false, true, false, false, false] ?_
        exact k
set_option maxRecDepth 100000 in
set_option maxHeartbeats 4000000 in
theorem tX11_hottest (d n : Nat) (I : Nat → Nat → Int32) (J : Nat → Nat → Int64) (rv sp rr w nw : Nat) (hrv : rv = 3 ∨ rv = 19) (out : Int32) (e : fX11_hottest n I rv = some out) : mm_T none (d + 3) 191 (mm_ent 191 [(.ref 1)]) (107, I, J, mm_rf rv sp rr w nw) (fun v h => v = some (.int out) ∧ h = (107, I, J, mm_rf rv sp rr w nw)) := by
  rcases hrv with rfl | rfl
  · unfold fX11_hottest at e
    refine mm_T.seg (f' := (6, [some (.ref 1), some (.int (-1)), some (.int 0), some (.int 0), none], [])) (h' := (107, I, J, mm_rf 3 sp rr w nw)) 6 rfl ?_
    refine mm_T.mask [true, true, true, true, false] ?_
    obtain ⟨o2426, eo2426, e⟩ := mm_bind e
    refine tlX11_hottest_L6 d _ n (-1) 0 0 I J 3 sp rr w nw (Or.inl rfl) o2426 eo2426 ?_
    refine mm_T.seg (f' := (65, [none, some (.int o2426), none, none, none], [(.int o2426)])) (h' := (107, I, J, mm_rf 3 sp rr w nw)) 1 rfl ?_
    cases e
    exact mm_T.ret rfl ⟨rfl, rfl⟩
  · unfold fX11_hottest at e
    refine mm_T.seg (f' := (6, [some (.ref 1), some (.int (-1)), some (.int 0), some (.int 0), none], [])) (h' := (107, I, J, mm_rf 19 sp rr w nw)) 6 rfl ?_
    refine mm_T.mask [true, true, true, true, false] ?_
    obtain ⟨o2426, eo2426, e⟩ := mm_bind e
    refine tlX11_hottest_L6 d _ n (-1) 0 0 I J 19 sp rr w nw (Or.inr rfl) o2426 eo2426 ?_
    refine mm_T.seg (f' := (65, [none, some (.int o2426), none, none, none], [(.int o2426)])) (h' := (107, I, J, mm_rf 19 sp rr w nw)) 1 rfl ?_
    cases e
    exact mm_T.ret rfl ⟨rfl, rfl⟩
set_option maxRecDepth 100000 in
set_option maxHeartbeats 4000000 in
theorem tlX11_law_L16 (d : Nat) (Q : Option Value → mm_H → Prop) : ∀ (n : Nat) (y1 : Int32) (y2 : Int32) (y3 : Int32) (I : Nat → Nat → Int32) (J : Nat → Nat → Int64) (rv sp rr w nw : Nat), (rv = 3 ∨ rv = 19) → ∀ (out : Int32), fX11_law_L16 n y1 y2 y3 I rv = some out → mm_T none (d + 2) 192 (66, [none, none, some (.int out), none], []) (107, I, J, mm_rf rv sp rr w nw) Q → mm_T none (d + 2) 192 (16, [some (.ref 1), some (.int y1), some (.int y2), some (.int y3)], []) (107, I, J, mm_rf rv sp rr w nw) Q := by
  intro n
  induction n with
  | zero =>
    intro y1 y2 y3 I J rv sp rr w nw hrv out e k
    rw [fX11_law_L16] at e; cases e
  | succ n ih =>
    intro y1 y2 y3 I J rv sp rr w nw hrv out e k
    rcases hrv with rfl | rfl
    · rw [fX11_law_L16] at e
      refine mm_T.seg (f' := (27, [some (.ref 1), some (.int y1), some (.int y2), some (.int y3)], [(.int (I 3 5)), (.int y3)])) (h' := (107, I, J, mm_rf 3 sp rr w nw)) 5 rfl ?_
      refine mm_T.br (c := y3 < (I 3 5)) (a := ((30, [some (.ref 1), some (.int y1), some (.int y2), some (.int y3)], []), (107, I, J, mm_rf 3 sp rr w nw))) (b := ((66, [some (.ref 1), some (.int y1), some (.int y2), some (.int y3)], []), (107, I, J, mm_rf 3 sp rr w nw))) rfl (fun h2432 => ?_) (fun h2432 => ?_)
      · rw [if_pos h2432] at e
        refine mm_T.seg (f' := (35, [some (.ref 1), some (.int y1), some (.int y2), some (.int y3)], [(.int y3), (.ref 18)])) (h' := (107, I, J, mm_rf 3 sp rr w nw)) 3 rfl ?_
        refine mm_T.call (t := 112) (as := [(.ref 18), (.int y3)]) (f' := (38, [some (.ref 1), some (.int y1), some (.int y2), some (.int y3)], [])) rfl (tX7_placeOf (d + 0) y3 I J 3 sp rr w nw _ rfl) (fun v h hq => ?_)
        obtain ⟨rfl, rfl⟩ := hq
        refine mm_T.seg (f' := (39, [some (.ref 1), some (.int y1), some (.int y2), some (.int y3)], [(.int (-1)), (.int (fX7_placeOf y3 I))])) (h' := (107, I, J, mm_rf 3 sp rr w nw)) 1 rfl ?_
        refine mm_T.br (c := (fX7_placeOf y3 I) = (-1)) (a := ((42, [some (.ref 1), some (.int y1), some (.int y2), some (.int y3)], []), (107, I, J, mm_rf 3 sp rr w nw))) (b := ((60, [some (.ref 1), some (.int y1), some (.int y2), some (.int y3)], []), (107, I, J, mm_rf 3 sp rr w nw))) rfl (fun h2433 => ?_) (fun h2433 => ?_)
        · rw [if_pos h2433] at e
          refine mm_T.seg (f' := (50, [some (.ref 1), some (.int y1), some (.int y2), some (.int y3)], [(.int y3), (.ref 3)])) (h' := (107, I, J, mm_rf 3 sp rr w nw)) 4 rfl ?_
          refine mm_T.call (t := 80) (as := [(.ref 3), (.int y3)]) (f' := (53, [some (.ref 1), some (.int y1), some (.int y2), some (.int y3)], [])) rfl (tX5_loadWide (d + 0) y3 3 I J 3 sp rr w nw (Or.inl rfl) _ rfl) (fun v h hq => ?_)
          obtain ⟨rfl, rfl⟩ := hq
          refine mm_T.seg (f' := (54, [some (.ref 1), some (.int y1), some (.int y2), some (.int y3)], [(.int y1), (.int (fX5_loadWide y3 3 I))])) (h' := (107, I, J, mm_rf 3 sp rr w nw)) 1 rfl ?_
          refine mm_T.br (c := y1 < (fX5_loadWide y3 3 I)) (a := ((60, [some (.ref 1), some (.int y1), some (.int y2), some (.int y3)], []), (107, I, J, mm_rf 3 sp rr w nw))) (b := ((57, [some (.ref 1), some (.int y1), some (.int y2), some (.int y3)], []), (107, I, J, mm_rf 3 sp rr w nw))) rfl (fun h2434 => ?_) (fun h2434 => ?_)
          · rw [if_pos h2434] at e
            refine mm_T.seg (f' := (16, [some (.ref 1), some (.int y1), some (.int y2), some (.int (y3 + 1))], [])) (h' := (107, I, J, mm_rf 3 sp rr w nw)) 2 rfl ?_
            refine mm_T.mask [true, true, true, true] ?_
            exact ih y1 y2 (y3 + 1) I J 3 sp rr w nw (Or.inl rfl) out e k
          · rw [if_neg h2434] at e
            refine mm_T.seg (f' := (16, [some (.ref 1), some (.int y1), some (.int (y2 + 1)), some (.int (y3 + 1))], [])) (h' := (107, I, J, mm_rf 3 sp rr w nw)) 3 rfl ?_
            refine mm_T.mask [true, true, true, true] ?_
            exact ih y1 (y2 + 1) (y3 + 1) I J 3 sp rr w nw (Or.inl rfl) out e k
        · rw [if_neg h2433] at e
          refine mm_T.seg (f' := (16, [some (.ref 1), some (.int y1), some (.int y2), some (.int (y3 + 1))], [])) (h' := (107, I, J, mm_rf 3 sp rr w nw)) 2 rfl ?_
          refine mm_T.mask [true, true, true, true] ?_
          exact ih y1 y2 (y3 + 1) I J 3 sp rr w nw (Or.inl rfl) out e k
      · rw [if_neg h2432] at e
        cases e
        refine mm_T.mask [false, false, true, false] ?_
        exact k
    · rw [fX11_law_L16] at e
      refine mm_T.seg (f' := (27, [some (.ref 1), some (.int y1), some (.int y2), some (.int y3)], [(.int (I 19 5)), (.int y3)])) (h' := (107, I, J, mm_rf 19 sp rr w nw)) 5 rfl ?_
      refine mm_T.br (c := y3 < (I 19 5)) (a := ((30, [some (.ref 1), some (.int y1), some (.int y2), some (.int y3)], []), (107, I, J, mm_rf 19 sp rr w nw))) (b := ((66, [some (.ref 1), some (.int y1), some (.int y2), some (.int y3)], []), (107, I, J, mm_rf 19 sp rr w nw))) rfl (fun h2432 => ?_) (fun h2432 => ?_)
      · rw [if_pos h2432] at e
        refine mm_T.seg (f' := (35, [some (.ref 1), some (.int y1), some (.int y2), some (.int y3)], [(.int y3), (.ref 18)])) (h' := (107, I, J, mm_rf 19 sp rr w nw)) 3 rfl ?_
        refine mm_T.call (t := 112) (as := [(.ref 18), (.int y3)]) (f' := (38, [some (.ref 1), some (.int y1), some (.int y2), some (.int y3)], [])) rfl (tX7_placeOf (d + 0) y3 I J 19 sp rr w nw _ rfl) (fun v h hq => ?_)
        obtain ⟨rfl, rfl⟩ := hq
        refine mm_T.seg (f' := (39, [some (.ref 1), some (.int y1), some (.int y2), some (.int y3)], [(.int (-1)), (.int (fX7_placeOf y3 I))])) (h' := (107, I, J, mm_rf 19 sp rr w nw)) 1 rfl ?_
        refine mm_T.br (c := (fX7_placeOf y3 I) = (-1)) (a := ((42, [some (.ref 1), some (.int y1), some (.int y2), some (.int y3)], []), (107, I, J, mm_rf 19 sp rr w nw))) (b := ((60, [some (.ref 1), some (.int y1), some (.int y2), some (.int y3)], []), (107, I, J, mm_rf 19 sp rr w nw))) rfl (fun h2433 => ?_) (fun h2433 => ?_)
        · rw [if_pos h2433] at e
          refine mm_T.seg (f' := (50, [some (.ref 1), some (.int y1), some (.int y2), some (.int y3)], [(.int y3), (.ref 19)])) (h' := (107, I, J, mm_rf 19 sp rr w nw)) 4 rfl ?_
          refine mm_T.call (t := 80) (as := [(.ref 19), (.int y3)]) (f' := (53, [some (.ref 1), some (.int y1), some (.int y2), some (.int y3)], [])) rfl (tX5_loadWide (d + 0) y3 19 I J 19 sp rr w nw (Or.inr rfl) _ rfl) (fun v h hq => ?_)
          obtain ⟨rfl, rfl⟩ := hq
          refine mm_T.seg (f' := (54, [some (.ref 1), some (.int y1), some (.int y2), some (.int y3)], [(.int y1), (.int (fX5_loadWide y3 19 I))])) (h' := (107, I, J, mm_rf 19 sp rr w nw)) 1 rfl ?_
          refine mm_T.br (c := y1 < (fX5_loadWide y3 19 I)) (a := ((60, [some (.ref 1), some (.int y1), some (.int y2), some (.int y3)], []), (107, I, J, mm_rf 19 sp rr w nw))) (b := ((57, [some (.ref 1), some (.int y1), some (.int y2), some (.int y3)], []), (107, I, J, mm_rf 19 sp rr w nw))) rfl (fun h2434 => ?_) (fun h2434 => ?_)
          · rw [if_pos h2434] at e
            refine mm_T.seg (f' := (16, [some (.ref 1), some (.int y1), some (.int y2), some (.int (y3 + 1))], [])) (h' := (107, I, J, mm_rf 19 sp rr w nw)) 2 rfl ?_
            refine mm_T.mask [true, true, true, true] ?_
            exact ih y1 y2 (y3 + 1) I J 19 sp rr w nw (Or.inr rfl) out e k
          · rw [if_neg h2434] at e
            refine mm_T.seg (f' := (16, [some (.ref 1), some (.int y1), some (.int (y2 + 1)), some (.int (y3 + 1))], [])) (h' := (107, I, J, mm_rf 19 sp rr w nw)) 3 rfl ?_
            refine mm_T.mask [true, true, true, true] ?_
            exact ih y1 (y2 + 1) (y3 + 1) I J 19 sp rr w nw (Or.inr rfl) out e k
        · rw [if_neg h2433] at e
          refine mm_T.seg (f' := (16, [some (.ref 1), some (.int y1), some (.int y2), some (.int (y3 + 1))], [])) (h' := (107, I, J, mm_rf 19 sp rr w nw)) 2 rfl ?_
          refine mm_T.mask [true, true, true, true] ?_
          exact ih y1 y2 (y3 + 1) I J 19 sp rr w nw (Or.inr rfl) out e k
      · rw [if_neg h2432] at e
        cases e
        refine mm_T.mask [false, false, true, false] ?_
        exact k
set_option maxRecDepth 100000 in
set_option maxHeartbeats 4000000 in
theorem tX11_law (d n : Nat) (x1 : Int32) (I : Nat → Nat → Int32) (J : Nat → Nat → Int64) (rv sp rr w nw : Nat) (hrv : rv = 3 ∨ rv = 19) (out : Int32) (e : fX11_law n x1 I rv = some out) : mm_T none (d + 2) 192 (mm_ent 192 [(.ref 1), (.int x1)]) (107, I, J, mm_rf rv sp rr w nw) (fun v h => v = some (.int out) ∧ h = (107, I, J, mm_rf rv sp rr w nw)) := by
  rcases hrv with rfl | rfl
  · unfold fX11_law at e
    refine mm_T.seg (f' := (1, [some (.ref 1), some (.int x1), none, none], [(.int x1)])) (h' := (107, I, J, mm_rf 3 sp rr w nw)) 1 rfl ?_
    refine mm_T.br (c := x1 < 0) (a := ((10, [some (.ref 1), some (.int x1), none, none], []), (107, I, J, mm_rf 3 sp rr w nw))) (b := ((4, [some (.ref 1), some (.int x1), none, none], []), (107, I, J, mm_rf 3 sp rr w nw))) rfl (fun h2427 => ?_) (fun h2427 => ?_)
    · rw [if_pos h2427] at e
      refine mm_T.seg (f' := (11, [some (.ref 1), some (.int x1), none, none], [(.int (-1))])) (h' := (107, I, J, mm_rf 3 sp rr w nw)) 1 rfl ?_
      cases e
      exact mm_T.ret rfl ⟨rfl, rfl⟩
    · rw [if_neg h2427] at e
      refine mm_T.seg (f' := (7, [some (.ref 1), some (.int x1), none, none], [(.int 99), (.int x1)])) (h' := (107, I, J, mm_rf 3 sp rr w nw)) 2 rfl ?_
      refine mm_T.br (c := 99 < x1) (a := ((10, [some (.ref 1), some (.int x1), none, none], []), (107, I, J, mm_rf 3 sp rr w nw))) (b := ((12, [some (.ref 1), some (.int x1), none, none], []), (107, I, J, mm_rf 3 sp rr w nw))) rfl (fun h2428 => ?_) (fun h2428 => ?_)
      · rw [if_pos h2428] at e
        refine mm_T.seg (f' := (11, [some (.ref 1), some (.int x1), none, none], [(.int (-1))])) (h' := (107, I, J, mm_rf 3 sp rr w nw)) 1 rfl ?_
        cases e
        exact mm_T.ret rfl ⟨rfl, rfl⟩
      · rw [if_neg h2428] at e
        refine mm_T.seg (f' := (16, [some (.ref 1), some (.int x1), some (.int 0), some (.int 0)], [])) (h' := (107, I, J, mm_rf 3 sp rr w nw)) 4 rfl ?_
        refine mm_T.mask [true, true, true, true] ?_
        obtain ⟨o2435, eo2435, e⟩ := mm_bind e
        refine tlX11_law_L16 d _ n x1 0 0 I J 3 sp rr w nw (Or.inl rfl) o2435 eo2435 ?_
        refine mm_T.seg (f' := (67, [none, none, some (.int o2435), none], [(.int o2435)])) (h' := (107, I, J, mm_rf 3 sp rr w nw)) 1 rfl ?_
        cases e
        exact mm_T.ret rfl ⟨rfl, rfl⟩
  · unfold fX11_law at e
    refine mm_T.seg (f' := (1, [some (.ref 1), some (.int x1), none, none], [(.int x1)])) (h' := (107, I, J, mm_rf 19 sp rr w nw)) 1 rfl ?_
    refine mm_T.br (c := x1 < 0) (a := ((10, [some (.ref 1), some (.int x1), none, none], []), (107, I, J, mm_rf 19 sp rr w nw))) (b := ((4, [some (.ref 1), some (.int x1), none, none], []), (107, I, J, mm_rf 19 sp rr w nw))) rfl (fun h2427 => ?_) (fun h2427 => ?_)
    · rw [if_pos h2427] at e
      refine mm_T.seg (f' := (11, [some (.ref 1), some (.int x1), none, none], [(.int (-1))])) (h' := (107, I, J, mm_rf 19 sp rr w nw)) 1 rfl ?_
      cases e
      exact mm_T.ret rfl ⟨rfl, rfl⟩
    · rw [if_neg h2427] at e
      refine mm_T.seg (f' := (7, [some (.ref 1), some (.int x1), none, none], [(.int 99), (.int x1)])) (h' := (107, I, J, mm_rf 19 sp rr w nw)) 2 rfl ?_
      refine mm_T.br (c := 99 < x1) (a := ((10, [some (.ref 1), some (.int x1), none, none], []), (107, I, J, mm_rf 19 sp rr w nw))) (b := ((12, [some (.ref 1), some (.int x1), none, none], []), (107, I, J, mm_rf 19 sp rr w nw))) rfl (fun h2428 => ?_) (fun h2428 => ?_)
      · rw [if_pos h2428] at e
        refine mm_T.seg (f' := (11, [some (.ref 1), some (.int x1), none, none], [(.int (-1))])) (h' := (107, I, J, mm_rf 19 sp rr w nw)) 1 rfl ?_
        cases e
        exact mm_T.ret rfl ⟨rfl, rfl⟩
      · rw [if_neg h2428] at e
        refine mm_T.seg (f' := (16, [some (.ref 1), some (.int x1), some (.int 0), some (.int 0)], [])) (h' := (107, I, J, mm_rf 19 sp rr w nw)) 4 rfl ?_
        refine mm_T.mask [true, true, true, true] ?_
        obtain ⟨o2435, eo2435, e⟩ := mm_bind e
        refine tlX11_law_L16 d _ n x1 0 0 I J 19 sp rr w nw (Or.inr rfl) o2435 eo2435 ?_
        refine mm_T.seg (f' := (67, [none, none, some (.int o2435), none], [(.int o2435)])) (h' := (107, I, J, mm_rf 19 sp rr w nw)) 1 rfl ?_
        cases e
        exact mm_T.ret rfl ⟨rfl, rfl⟩
set_option maxRecDepth 100000 in
set_option maxHeartbeats 4000000 in
theorem tX11_lies (d : Nat) (x1 : Int32) (I : Nat → Nat → Int32) (J : Nat → Nat → Int64) (rv sp rr w nw : Nat) (out : Int32) (e : fX11_lies x1 I = out) : mm_T none (d + 2) 193 (mm_ent 193 [(.ref 1), (.int x1)]) (107, I, J, mm_rf rv sp rr w nw) (fun v h => v = some (.int out) ∧ h = (107, I, J, mm_rf rv sp rr w nw)) := by
  unfold fX11_lies at e
  refine mm_T.seg (f' := (5, [some (.ref 1), some (.int x1)], [(.int x1), (.ref 35)])) (h' := (107, I, J, mm_rf rv sp rr w nw)) 3 rfl ?_
  refine mm_T.call (t := 26) (as := [(.ref 35), (.int x1)]) (f' := (8, [some (.ref 1), some (.int x1)], [])) rfl (tX3_numberAt (d + 0) x1 I J rv sp rr w nw _ rfl) (fun v h hq => ?_)
  obtain ⟨rfl, rfl⟩ := hq
  cases e
  exact mm_T.ret rfl ⟨rfl, rfl⟩
set_option maxRecDepth 100000 in
set_option maxHeartbeats 4000000 in
theorem tX11_passed (d : Nat) (x1 : Int32) (x2 : Int32) (x3 : Int32) (I : Nat → Nat → Int32) (J : Nat → Nat → Int64) (rv sp rr w nw : Nat) (hrv : rv = 3 ∨ rv = 19) (out : Int32 × (Nat → Nat → Int32)) (e : fX11_passed x1 x2 x3 I rv = out) : mm_T none (d + 3) 194 (mm_ent 194 [(.ref 1), (.int x1), (.int x2), (.int x3)]) (107, I, J, mm_rf rv sp rr w nw) (fun v h => v = some (.int out.1) ∧ h = (107, out.2, J, mm_rf rv sp rr w nw)) := by
  rcases hrv with rfl | rfl
  · unfold fX11_passed at e
    refine mm_T.seg (f' := (1, [some (.ref 1), some (.int x1), some (.int x2), some (.int x3)], [(.int x2)])) (h' := (107, I, J, mm_rf 3 sp rr w nw)) 1 rfl ?_
    refine mm_T.br (c := x2 < 0) (a := ((10, [some (.ref 1), some (.int x1), some (.int x2), some (.int x3)], []), (107, I, J, mm_rf 3 sp rr w nw))) (b := ((4, [some (.ref 1), some (.int x1), some (.int x2), some (.int x3)], []), (107, I, J, mm_rf 3 sp rr w nw))) rfl (fun h2436 => ?_) (fun h2436 => ?_)
    · rw [if_pos h2436] at e
      refine mm_T.seg (f' := (25, [some (.ref 1), some (.int x1), some (.int x2), some (.int x3)], [(.int (-1))])) (h' := (107, I, J, mm_rf 3 sp rr w nw)) 2 rfl ?_
      cases e
      exact mm_T.ret rfl ⟨rfl, rfl⟩
    · rw [if_neg h2436] at e
      refine mm_T.seg (f' := (7, [some (.ref 1), some (.int x1), some (.int x2), some (.int x3)], [(.int 7), (.int x2)])) (h' := (107, I, J, mm_rf 3 sp rr w nw)) 2 rfl ?_
      refine mm_T.br (c := 7 < x2) (a := ((10, [some (.ref 1), some (.int x1), some (.int x2), some (.int x3)], []), (107, I, J, mm_rf 3 sp rr w nw))) (b := ((14, [some (.ref 1), some (.int x1), some (.int x2), some (.int x3)], []), (107, I, J, mm_rf 3 sp rr w nw))) rfl (fun h2437 => ?_) (fun h2437 => ?_)
      · rw [if_pos h2437] at e
        refine mm_T.seg (f' := (25, [some (.ref 1), some (.int x1), some (.int x2), some (.int x3)], [(.int (-1))])) (h' := (107, I, J, mm_rf 3 sp rr w nw)) 2 rfl ?_
        cases e
        exact mm_T.ret rfl ⟨rfl, rfl⟩
      · rw [if_neg h2437] at e
        refine mm_T.seg (f' := (22, [some (.ref 1), some (.int x1), some (.int x2), some (.int x3)], [(.int x3), (.int x2), (.int x1), (.int 0), (.ref 54)])) (h' := (107, I, J, mm_rf 3 sp rr w nw)) 6 rfl ?_
        refine mm_T.call (t := 143) (as := [(.ref 54), (.int 0), (.int x1), (.int x2), (.int x3)]) (f' := (25, [some (.ref 1), some (.int x1), some (.int x2), some (.int x3)], [])) rfl (tX10_tell (d + 0) 0 x1 x2 x3 I J 3 sp rr w nw (Or.inl rfl) _ rfl) (fun v h hq => ?_)
        obtain ⟨rfl, rfl⟩ := hq
        cases e
        exact mm_T.ret rfl ⟨rfl, rfl⟩
  · unfold fX11_passed at e
    refine mm_T.seg (f' := (1, [some (.ref 1), some (.int x1), some (.int x2), some (.int x3)], [(.int x2)])) (h' := (107, I, J, mm_rf 19 sp rr w nw)) 1 rfl ?_
    refine mm_T.br (c := x2 < 0) (a := ((10, [some (.ref 1), some (.int x1), some (.int x2), some (.int x3)], []), (107, I, J, mm_rf 19 sp rr w nw))) (b := ((4, [some (.ref 1), some (.int x1), some (.int x2), some (.int x3)], []), (107, I, J, mm_rf 19 sp rr w nw))) rfl (fun h2436 => ?_) (fun h2436 => ?_)
    · rw [if_pos h2436] at e
      refine mm_T.seg (f' := (25, [some (.ref 1), some (.int x1), some (.int x2), some (.int x3)], [(.int (-1))])) (h' := (107, I, J, mm_rf 19 sp rr w nw)) 2 rfl ?_
      cases e
      exact mm_T.ret rfl ⟨rfl, rfl⟩
    · rw [if_neg h2436] at e
      refine mm_T.seg (f' := (7, [some (.ref 1), some (.int x1), some (.int x2), some (.int x3)], [(.int 7), (.int x2)])) (h' := (107, I, J, mm_rf 19 sp rr w nw)) 2 rfl ?_
      refine mm_T.br (c := 7 < x2) (a := ((10, [some (.ref 1), some (.int x1), some (.int x2), some (.int x3)], []), (107, I, J, mm_rf 19 sp rr w nw))) (b := ((14, [some (.ref 1), some (.int x1), some (.int x2), some (.int x3)], []), (107, I, J, mm_rf 19 sp rr w nw))) rfl (fun h2437 => ?_) (fun h2437 => ?_)
      · rw [if_pos h2437] at e
        refine mm_T.seg (f' := (25, [some (.ref 1), some (.int x1), some (.int x2), some (.int x3)], [(.int (-1))])) (h' := (107, I, J, mm_rf 19 sp rr w nw)) 2 rfl ?_
        cases e
        exact mm_T.ret rfl ⟨rfl, rfl⟩
      · rw [if_neg h2437] at e
        refine mm_T.seg (f' := (22, [some (.ref 1), some (.int x1), some (.int x2), some (.int x3)], [(.int x3), (.int x2), (.int x1), (.int 0), (.ref 54)])) (h' := (107, I, J, mm_rf 19 sp rr w nw)) 6 rfl ?_
        refine mm_T.call (t := 143) (as := [(.ref 54), (.int 0), (.int x1), (.int x2), (.int x3)]) (f' := (25, [some (.ref 1), some (.int x1), some (.int x2), some (.int x3)], [])) rfl (tX10_tell (d + 0) 0 x1 x2 x3 I J 19 sp rr w nw (Or.inr rfl) _ rfl) (fun v h hq => ?_)
        obtain ⟨rfl, rfl⟩ := hq
        cases e
        exact mm_T.ret rfl ⟨rfl, rfl⟩
set_option maxRecDepth 100000 in
set_option maxHeartbeats 4000000 in
theorem tX11_felt (d : Nat) (x1 : Int32) (x2 : Int32) (x3 : Int32) (I : Nat → Nat → Int32) (J : Nat → Nat → Int64) (rv sp rr w nw : Nat) (hrv : rv = 3 ∨ rv = 19) (out : Int32 × (Nat → Nat → Int32)) (e : fX11_felt x1 x2 x3 I rv = out) : mm_T none (d + 3) 195 (mm_ent 195 [(.ref 1), (.int x1), (.int x2), (.int x3)]) (107, I, J, mm_rf rv sp rr w nw) (fun v h => v = some (.int out.1) ∧ h = (107, out.2, J, mm_rf rv sp rr w nw)) := by
  rcases hrv with rfl | rfl
  · unfold fX11_felt at e
    refine mm_T.seg (f' := (1, [some (.ref 1), some (.int x1), some (.int x2), some (.int x3)], [(.int x2)])) (h' := (107, I, J, mm_rf 3 sp rr w nw)) 1 rfl ?_
    refine mm_T.br (c := x2 < 0) (a := ((10, [some (.ref 1), some (.int x1), some (.int x2), some (.int x3)], []), (107, I, J, mm_rf 3 sp rr w nw))) (b := ((4, [some (.ref 1), some (.int x1), some (.int x2), some (.int x3)], []), (107, I, J, mm_rf 3 sp rr w nw))) rfl (fun h2438 => ?_) (fun h2438 => ?_)
    · rw [if_pos h2438] at e
      refine mm_T.seg (f' := (25, [some (.ref 1), some (.int x1), some (.int x2), some (.int x3)], [(.int (-1))])) (h' := (107, I, J, mm_rf 3 sp rr w nw)) 2 rfl ?_
      cases e
      exact mm_T.ret rfl ⟨rfl, rfl⟩
    · rw [if_neg h2438] at e
      refine mm_T.seg (f' := (7, [some (.ref 1), some (.int x1), some (.int x2), some (.int x3)], [(.int 99), (.int x2)])) (h' := (107, I, J, mm_rf 3 sp rr w nw)) 2 rfl ?_
      refine mm_T.br (c := 99 < x2) (a := ((10, [some (.ref 1), some (.int x1), some (.int x2), some (.int x3)], []), (107, I, J, mm_rf 3 sp rr w nw))) (b := ((14, [some (.ref 1), some (.int x1), some (.int x2), some (.int x3)], []), (107, I, J, mm_rf 3 sp rr w nw))) rfl (fun h2439 => ?_) (fun h2439 => ?_)
      · rw [if_pos h2439] at e
        refine mm_T.seg (f' := (25, [some (.ref 1), some (.int x1), some (.int x2), some (.int x3)], [(.int (-1))])) (h' := (107, I, J, mm_rf 3 sp rr w nw)) 2 rfl ?_
        cases e
        exact mm_T.ret rfl ⟨rfl, rfl⟩
      · rw [if_neg h2439] at e
        refine mm_T.seg (f' := (22, [some (.ref 1), some (.int x1), some (.int x2), some (.int x3)], [(.int x3), (.int x2), (.int x1), (.int 1), (.ref 54)])) (h' := (107, I, J, mm_rf 3 sp rr w nw)) 6 rfl ?_
        refine mm_T.call (t := 143) (as := [(.ref 54), (.int 1), (.int x1), (.int x2), (.int x3)]) (f' := (25, [some (.ref 1), some (.int x1), some (.int x2), some (.int x3)], [])) rfl (tX10_tell (d + 0) 1 x1 x2 x3 I J 3 sp rr w nw (Or.inl rfl) _ rfl) (fun v h hq => ?_)
        obtain ⟨rfl, rfl⟩ := hq
        cases e
        exact mm_T.ret rfl ⟨rfl, rfl⟩
  · unfold fX11_felt at e
    refine mm_T.seg (f' := (1, [some (.ref 1), some (.int x1), some (.int x2), some (.int x3)], [(.int x2)])) (h' := (107, I, J, mm_rf 19 sp rr w nw)) 1 rfl ?_
    refine mm_T.br (c := x2 < 0) (a := ((10, [some (.ref 1), some (.int x1), some (.int x2), some (.int x3)], []), (107, I, J, mm_rf 19 sp rr w nw))) (b := ((4, [some (.ref 1), some (.int x1), some (.int x2), some (.int x3)], []), (107, I, J, mm_rf 19 sp rr w nw))) rfl (fun h2438 => ?_) (fun h2438 => ?_)
    · rw [if_pos h2438] at e
      refine mm_T.seg (f' := (25, [some (.ref 1), some (.int x1), some (.int x2), some (.int x3)], [(.int (-1))])) (h' := (107, I, J, mm_rf 19 sp rr w nw)) 2 rfl ?_
      cases e
      exact mm_T.ret rfl ⟨rfl, rfl⟩
    · rw [if_neg h2438] at e
      refine mm_T.seg (f' := (7, [some (.ref 1), some (.int x1), some (.int x2), some (.int x3)], [(.int 99), (.int x2)])) (h' := (107, I, J, mm_rf 19 sp rr w nw)) 2 rfl ?_
      refine mm_T.br (c := 99 < x2) (a := ((10, [some (.ref 1), some (.int x1), some (.int x2), some (.int x3)], []), (107, I, J, mm_rf 19 sp rr w nw))) (b := ((14, [some (.ref 1), some (.int x1), some (.int x2), some (.int x3)], []), (107, I, J, mm_rf 19 sp rr w nw))) rfl (fun h2439 => ?_) (fun h2439 => ?_)
      · rw [if_pos h2439] at e
        refine mm_T.seg (f' := (25, [some (.ref 1), some (.int x1), some (.int x2), some (.int x3)], [(.int (-1))])) (h' := (107, I, J, mm_rf 19 sp rr w nw)) 2 rfl ?_
        cases e
        exact mm_T.ret rfl ⟨rfl, rfl⟩
      · rw [if_neg h2439] at e
        refine mm_T.seg (f' := (22, [some (.ref 1), some (.int x1), some (.int x2), some (.int x3)], [(.int x3), (.int x2), (.int x1), (.int 1), (.ref 54)])) (h' := (107, I, J, mm_rf 19 sp rr w nw)) 6 rfl ?_
        refine mm_T.call (t := 143) (as := [(.ref 54), (.int 1), (.int x1), (.int x2), (.int x3)]) (f' := (25, [some (.ref 1), some (.int x1), some (.int x2), some (.int x3)], [])) rfl (tX10_tell (d + 0) 1 x1 x2 x3 I J 19 sp rr w nw (Or.inr rfl) _ rfl) (fun v h hq => ?_)
        obtain ⟨rfl, rfl⟩ := hq
        cases e
        exact mm_T.ret rfl ⟨rfl, rfl⟩
set_option maxRecDepth 100000 in
set_option maxHeartbeats 4000000 in
theorem tX11_untell (d : Nat) (x1 : Int32) (I : Nat → Nat → Int32) (J : Nat → Nat → Int64) (rv sp rr w nw : Nat) (out : Int32 × (Nat → Nat → Int32)) (e : fX11_untell x1 I = some out) : mm_T none (d + 3) 196 (mm_ent 196 [(.ref 1), (.int x1)]) (107, I, J, mm_rf rv sp rr w nw) (fun v h => v = some (.int out.1) ∧ h = (107, out.2, J, mm_rf rv sp rr w nw)) := by
  unfold fX11_untell at e
  refine mm_T.seg (f' := (5, [some (.ref 1), some (.int x1)], [(.int x1), (.ref 54)])) (h' := (107, I, J, mm_rf rv sp rr w nw)) 3 rfl ?_
  refine mm_T.call (t := 144) (as := [(.ref 54), (.int x1)]) (f' := (8, [some (.ref 1), some (.int x1)], [])) rfl (tX10_takeBack (d + 0) x1 I J rv sp rr w nw _ rfl) (fun v h hq => ?_)
  obtain ⟨rfl, rfl⟩ := hq
  by_cases h2440 : (fX10_takeBack x1 I).1 = 0 ∨ (fX10_takeBack x1 I).1 = 1
  case neg => rw [if_neg h2440] at e; cases e
  rw [if_pos h2440] at e
  cases e
  first | exact mm_T.retZ (v := some (.int (fX10_takeBack x1 I).1)) rfl h2440 ⟨rfl, rfl⟩ | exact mm_T.retZ (v := some (.int out)) rfl h2440 ⟨rfl, rfl⟩
set_option maxRecDepth 100000 in
set_option maxHeartbeats 4000000 in
theorem tX11_later (d : Nat) (x1 : Int32) (I : Nat → Nat → Int32) (J : Nat → Nat → Int64) (rv sp rr w nw : Nat) (out : Int32 × (Nat → Nat → Int32)) (e : fX11_later x1 I = out) : mm_T none (d + 1) 197 (mm_ent 197 [(.ref 1), (.int x1)]) (107, I, J, mm_rf rv sp rr w nw) (fun v h => v = some (.int out.1) ∧ h = (107, out.2, J, mm_rf rv sp rr w nw)) := by
  unfold fX11_later at e
  refine mm_T.seg (f' := (5, [some (.ref 1), some (.int x1)], [(.int x1), (.ref 54)])) (h' := (107, I, J, mm_rf rv sp rr w nw)) 3 rfl ?_
  refine mm_T.call (t := 145) (as := [(.ref 54), (.int x1)]) (f' := (8, [some (.ref 1), some (.int x1)], [])) rfl (tX10_goOn (d + 0) x1 I J rv sp rr w nw _ rfl) (fun v h hq => ?_)
  obtain ⟨rfl, rfl⟩ := hq
  cases e
  exact mm_T.ret rfl ⟨rfl, rfl⟩
set_option maxRecDepth 100000 in
set_option maxHeartbeats 4000000 in
theorem tX11_fits (d n : Nat) (x1 : Int32) (I : Nat → Nat → Int32) (J : Nat → Nat → Int64) (rv sp rr w nw : Nat) (hrv : rv = 3 ∨ rv = 19) (out : Int32 × (Nat → Nat → Int32)) (e : fX11_fits n x1 I rv = some out) : mm_T none (d + 18) 198 (mm_ent 198 [(.ref 1), (.int x1)]) (107, I, J, mm_rf rv sp rr w nw) (fun v h => v = some (.int out.1) ∧ h = (107, out.2, J, mm_rf rv sp rr w nw)) := by
  rcases hrv with rfl | rfl
  · unfold fX11_fits at e
    refine mm_T.seg (f' := (5, [some (.ref 1), some (.int x1)], [(.int x1), (.ref 54)])) (h' := (107, I, J, mm_rf 3 sp rr w nw)) 3 rfl ?_
    obtain ⟨o2441, eo2441, e⟩ := mm_bind e
    refine mm_T.call (t := 152) (as := [(.ref 54), (.int x1)]) (f' := (8, [some (.ref 1), some (.int x1)], [])) rfl (tX10_countFits (d + 0) n x1 I J 3 sp rr w nw (Or.inl rfl) o2441 eo2441) (fun v h hq => ?_)
    obtain ⟨rfl, rfl⟩ := hq
    cases e
    exact mm_T.ret rfl ⟨rfl, rfl⟩
  · unfold fX11_fits at e
    refine mm_T.seg (f' := (5, [some (.ref 1), some (.int x1)], [(.int x1), (.ref 54)])) (h' := (107, I, J, mm_rf 19 sp rr w nw)) 3 rfl ?_
    obtain ⟨o2441, eo2441, e⟩ := mm_bind e
    refine mm_T.call (t := 152) (as := [(.ref 54), (.int x1)]) (f' := (8, [some (.ref 1), some (.int x1)], [])) rfl (tX10_countFits (d + 0) n x1 I J 19 sp rr w nw (Or.inr rfl) o2441 eo2441) (fun v h hq => ?_)
    obtain ⟨rfl, rfl⟩ := hq
    cases e
    exact mm_T.ret rfl ⟨rfl, rfl⟩
set_option maxRecDepth 100000 in
set_option maxHeartbeats 4000000 in
theorem tX11_sure (d n : Nat) (x1 : Int32) (x2 : Int32) (I : Nat → Nat → Int32) (J : Nat → Nat → Int64) (rv sp rr w nw : Nat) (hrv : rv = 3 ∨ rv = 19) (out : Int32 × (Nat → Nat → Int32)) (e : fX11_sure n x1 x2 I rv = some out) : mm_T none (d + 19) 199 (mm_ent 199 [(.ref 1), (.int x1), (.int x2)]) (107, I, J, mm_rf rv sp rr w nw) (fun v h => v = some (.int out.1) ∧ h = (107, out.2, J, mm_rf rv sp rr w nw)) := by
  rcases hrv with rfl | rfl
  · unfold fX11_sure at e
    refine mm_T.seg (f' := (6, [some (.ref 1), some (.int x1), some (.int x2)], [(.int x2), (.int x1), (.ref 54)])) (h' := (107, I, J, mm_rf 3 sp rr w nw)) 4 rfl ?_
    obtain ⟨o2442, eo2442, e⟩ := mm_bind e
    refine mm_T.call (t := 155) (as := [(.ref 54), (.int x1), (.int x2)]) (f' := (9, [some (.ref 1), some (.int x1), some (.int x2)], [])) rfl (tX10_sureSteer (d + 0) n x1 x2 I J 3 sp rr w nw (Or.inl rfl) o2442 eo2442) (fun v h hq => ?_)
    obtain ⟨rfl, rfl⟩ := hq
    cases e
    exact mm_T.ret rfl ⟨rfl, rfl⟩
  · unfold fX11_sure at e
    refine mm_T.seg (f' := (6, [some (.ref 1), some (.int x1), some (.int x2)], [(.int x2), (.int x1), (.ref 54)])) (h' := (107, I, J, mm_rf 19 sp rr w nw)) 4 rfl ?_
    obtain ⟨o2442, eo2442, e⟩ := mm_bind e
    refine mm_T.call (t := 155) (as := [(.ref 54), (.int x1), (.int x2)]) (f' := (9, [some (.ref 1), some (.int x1), some (.int x2)], [])) rfl (tX10_sureSteer (d + 0) n x1 x2 I J 19 sp rr w nw (Or.inr rfl) o2442 eo2442) (fun v h hq => ?_)
    obtain ⟨rfl, rfl⟩ := hq
    cases e
    exact mm_T.ret rfl ⟨rfl, rfl⟩
set_option maxRecDepth 100000 in
set_option maxHeartbeats 4000000 in
theorem tX11_ask (d n : Nat) (x1 : Int32) (x2 : Int32) (I : Nat → Nat → Int32) (J : Nat → Nat → Int64) (rv sp rr w nw : Nat) (hrv : rv = 3 ∨ rv = 19) (out : Int32 × (Nat → Nat → Int32)) (e : fX11_ask n x1 x2 I rv = some out) : mm_T none (d + 19) 200 (mm_ent 200 [(.ref 1), (.int x1), (.int x2)]) (107, I, J, mm_rf rv sp rr w nw) (fun v h => v = some (.int out.1) ∧ h = (107, out.2, J, mm_rf rv sp rr w nw)) := by
  rcases hrv with rfl | rfl
  · unfold fX11_ask at e
    refine mm_T.seg (f' := (1, [some (.ref 1), some (.int x1), some (.int x2), none], [(.int x1)])) (h' := (107, I, J, mm_rf 3 sp rr w nw)) 1 rfl ?_
    refine mm_T.br (c := x1 < 0) (a := ((9, [some (.ref 1), some (.int x1), some (.int x2), none], []), (107, I, J, mm_rf 3 sp rr w nw))) (b := ((4, [some (.ref 1), some (.int x1), some (.int x2), none], []), (107, I, J, mm_rf 3 sp rr w nw))) rfl (fun h2443 => ?_) (fun h2443 => ?_)
    · rw [if_pos h2443] at e
      refine mm_T.seg (f' := (10, [some (.ref 1), some (.int x1), some (.int x2), none], [(.int (-1))])) (h' := (107, I, J, mm_rf 3 sp rr w nw)) 1 rfl ?_
      cases e
      exact mm_T.ret rfl ⟨rfl, rfl⟩
    · rw [if_neg h2443] at e
      refine mm_T.seg (f' := (6, [some (.ref 1), some (.int x1), some (.int x2), none], [(.int 1), (.int x1)])) (h' := (107, I, J, mm_rf 3 sp rr w nw)) 2 rfl ?_
      refine mm_T.br (c := 1 < x1) (a := ((9, [some (.ref 1), some (.int x1), some (.int x2), none], []), (107, I, J, mm_rf 3 sp rr w nw))) (b := ((11, [some (.ref 1), some (.int x1), some (.int x2), none], []), (107, I, J, mm_rf 3 sp rr w nw))) rfl (fun h2444 => ?_) (fun h2444 => ?_)
      · rw [if_pos h2444] at e
        refine mm_T.seg (f' := (10, [some (.ref 1), some (.int x1), some (.int x2), none], [(.int (-1))])) (h' := (107, I, J, mm_rf 3 sp rr w nw)) 1 rfl ?_
        cases e
        exact mm_T.ret rfl ⟨rfl, rfl⟩
      · rw [if_neg h2444] at e
        refine mm_T.seg (f' := (16, [some (.ref 1), some (.int x1), some (.int x2), none], [(.int x2), (.ref 54)])) (h' := (107, I, J, mm_rf 3 sp rr w nw)) 3 rfl ?_
        obtain ⟨o2445, eo2445, e⟩ := mm_bind e
        refine mm_T.call (t := 157) (as := [(.ref 54), (.int x2)]) (f' := (19, [some (.ref 1), some (.int x1), some (.int x2), none], [])) rfl (tX10_strokeToAsk (d + 0) n x2 I J 3 sp rr w nw (Or.inl rfl) o2445 eo2445) (fun v h hq => ?_)
        obtain ⟨rfl, rfl⟩ := hq
        refine mm_T.seg (f' := (21, [some (.ref 1), some (.int x1), some (.int x2), some (.int o2445.1)], [(.int x1)])) (h' := (107, o2445.2, J, mm_rf 3 sp rr w nw)) 2 rfl ?_
        refine mm_T.br (c := x1 = 0) (a := ((29, [some (.ref 1), some (.int x1), some (.int x2), some (.int o2445.1)], []), (107, o2445.2, J, mm_rf 3 sp rr w nw))) (b := ((24, [some (.ref 1), some (.int x1), some (.int x2), some (.int o2445.1)], []), (107, o2445.2, J, mm_rf 3 sp rr w nw))) rfl (fun h2446 => ?_) (fun h2446 => ?_)
        · rw [if_pos h2446] at e
          refine mm_T.seg (f' := (41, [some (.ref 1), some (.int x1), some (.int x2), some (.int o2445.1)], [(.int o2445.1)])) (h' := (107, o2445.2, J, mm_rf 3 sp rr w nw)) 2 rfl ?_
          cases e
          exact mm_T.ret rfl ⟨rfl, rfl⟩
        · rw [if_neg h2446] at e
          refine mm_T.seg (f' := (26, [some (.ref 1), some (.int x1), some (.int x2), some (.int o2445.1)], [(.int (-1)), (.int o2445.1)])) (h' := (107, o2445.2, J, mm_rf 3 sp rr w nw)) 2 rfl ?_
          refine mm_T.br (c := o2445.1 = (-1)) (a := ((29, [some (.ref 1), some (.int x1), some (.int x2), some (.int o2445.1)], []), (107, o2445.2, J, mm_rf 3 sp rr w nw))) (b := ((33, [some (.ref 1), some (.int x1), some (.int x2), some (.int o2445.1)], []), (107, o2445.2, J, mm_rf 3 sp rr w nw))) rfl (fun h2447 => ?_) (fun h2447 => ?_)
          · rw [if_pos h2447] at e
            refine mm_T.seg (f' := (41, [some (.ref 1), some (.int x1), some (.int x2), some (.int o2445.1)], [(.int o2445.1)])) (h' := (107, o2445.2, J, mm_rf 3 sp rr w nw)) 2 rfl ?_
            cases e
            exact mm_T.ret rfl ⟨rfl, rfl⟩
          · rw [if_neg h2447] at e
            refine mm_T.seg (f' := (38, [some (.ref 1), some (.int x1), some (.int x2), some (.int o2445.1)], [(.int o2445.1), (.ref 54)])) (h' := (107, o2445.2, J, mm_rf 3 sp rr w nw)) 3 rfl ?_
            obtain ⟨o2448, eo2448, e⟩ := mm_bind e
            refine mm_T.call (t := 156) (as := [(.ref 54), (.int o2445.1)]) (f' := (41, [some (.ref 1), some (.int x1), some (.int x2), some (.int o2445.1)], [])) rfl (tX10_mostLeft (d + 17) n o2445.1 o2445.2 J 3 sp rr w nw o2448 eo2448) (fun v h hq => ?_)
            obtain ⟨rfl, rfl⟩ := hq
            cases e
            exact mm_T.ret rfl ⟨rfl, rfl⟩
  · unfold fX11_ask at e
    refine mm_T.seg (f' := (1, [some (.ref 1), some (.int x1), some (.int x2), none], [(.int x1)])) (h' := (107, I, J, mm_rf 19 sp rr w nw)) 1 rfl ?_
    refine mm_T.br (c := x1 < 0) (a := ((9, [some (.ref 1), some (.int x1), some (.int x2), none], []), (107, I, J, mm_rf 19 sp rr w nw))) (b := ((4, [some (.ref 1), some (.int x1), some (.int x2), none], []), (107, I, J, mm_rf 19 sp rr w nw))) rfl (fun h2443 => ?_) (fun h2443 => ?_)
    · rw [if_pos h2443] at e
      refine mm_T.seg (f' := (10, [some (.ref 1), some (.int x1), some (.int x2), none], [(.int (-1))])) (h' := (107, I, J, mm_rf 19 sp rr w nw)) 1 rfl ?_
      cases e
      exact mm_T.ret rfl ⟨rfl, rfl⟩
    · rw [if_neg h2443] at e
      refine mm_T.seg (f' := (6, [some (.ref 1), some (.int x1), some (.int x2), none], [(.int 1), (.int x1)])) (h' := (107, I, J, mm_rf 19 sp rr w nw)) 2 rfl ?_
      refine mm_T.br (c := 1 < x1) (a := ((9, [some (.ref 1), some (.int x1), some (.int x2), none], []), (107, I, J, mm_rf 19 sp rr w nw))) (b := ((11, [some (.ref 1), some (.int x1), some (.int x2), none], []), (107, I, J, mm_rf 19 sp rr w nw))) rfl (fun h2444 => ?_) (fun h2444 => ?_)
      · rw [if_pos h2444] at e
        refine mm_T.seg (f' := (10, [some (.ref 1), some (.int x1), some (.int x2), none], [(.int (-1))])) (h' := (107, I, J, mm_rf 19 sp rr w nw)) 1 rfl ?_
        cases e
        exact mm_T.ret rfl ⟨rfl, rfl⟩
      · rw [if_neg h2444] at e
        refine mm_T.seg (f' := (16, [some (.ref 1), some (.int x1), some (.int x2), none], [(.int x2), (.ref 54)])) (h' := (107, I, J, mm_rf 19 sp rr w nw)) 3 rfl ?_
        obtain ⟨o2445, eo2445, e⟩ := mm_bind e
        refine mm_T.call (t := 157) (as := [(.ref 54), (.int x2)]) (f' := (19, [some (.ref 1), some (.int x1), some (.int x2), none], [])) rfl (tX10_strokeToAsk (d + 0) n x2 I J 19 sp rr w nw (Or.inr rfl) o2445 eo2445) (fun v h hq => ?_)
        obtain ⟨rfl, rfl⟩ := hq
        refine mm_T.seg (f' := (21, [some (.ref 1), some (.int x1), some (.int x2), some (.int o2445.1)], [(.int x1)])) (h' := (107, o2445.2, J, mm_rf 19 sp rr w nw)) 2 rfl ?_
        refine mm_T.br (c := x1 = 0) (a := ((29, [some (.ref 1), some (.int x1), some (.int x2), some (.int o2445.1)], []), (107, o2445.2, J, mm_rf 19 sp rr w nw))) (b := ((24, [some (.ref 1), some (.int x1), some (.int x2), some (.int o2445.1)], []), (107, o2445.2, J, mm_rf 19 sp rr w nw))) rfl (fun h2446 => ?_) (fun h2446 => ?_)
        · rw [if_pos h2446] at e
          refine mm_T.seg (f' := (41, [some (.ref 1), some (.int x1), some (.int x2), some (.int o2445.1)], [(.int o2445.1)])) (h' := (107, o2445.2, J, mm_rf 19 sp rr w nw)) 2 rfl ?_
          cases e
          exact mm_T.ret rfl ⟨rfl, rfl⟩
        · rw [if_neg h2446] at e
          refine mm_T.seg (f' := (26, [some (.ref 1), some (.int x1), some (.int x2), some (.int o2445.1)], [(.int (-1)), (.int o2445.1)])) (h' := (107, o2445.2, J, mm_rf 19 sp rr w nw)) 2 rfl ?_
          refine mm_T.br (c := o2445.1 = (-1)) (a := ((29, [some (.ref 1), some (.int x1), some (.int x2), some (.int o2445.1)], []), (107, o2445.2, J, mm_rf 19 sp rr w nw))) (b := ((33, [some (.ref 1), some (.int x1), some (.int x2), some (.int o2445.1)], []), (107, o2445.2, J, mm_rf 19 sp rr w nw))) rfl (fun h2447 => ?_) (fun h2447 => ?_)
          · rw [if_pos h2447] at e
            refine mm_T.seg (f' := (41, [some (.ref 1), some (.int x1), some (.int x2), some (.int o2445.1)], [(.int o2445.1)])) (h' := (107, o2445.2, J, mm_rf 19 sp rr w nw)) 2 rfl ?_
            cases e
            exact mm_T.ret rfl ⟨rfl, rfl⟩
          · rw [if_neg h2447] at e
            refine mm_T.seg (f' := (38, [some (.ref 1), some (.int x1), some (.int x2), some (.int o2445.1)], [(.int o2445.1), (.ref 54)])) (h' := (107, o2445.2, J, mm_rf 19 sp rr w nw)) 3 rfl ?_
            obtain ⟨o2448, eo2448, e⟩ := mm_bind e
            refine mm_T.call (t := 156) (as := [(.ref 54), (.int o2445.1)]) (f' := (41, [some (.ref 1), some (.int x1), some (.int x2), some (.int o2445.1)], [])) rfl (tX10_mostLeft (d + 17) n o2445.1 o2445.2 J 19 sp rr w nw o2448 eo2448) (fun v h hq => ?_)
            obtain ⟨rfl, rfl⟩ := hq
            cases e
            exact mm_T.ret rfl ⟨rfl, rfl⟩
set_option maxRecDepth 100000 in
set_option maxHeartbeats 4000000 in
theorem tX11_image (d n : Nat) (x1 : Int32) (I : Nat → Nat → Int32) (J : Nat → Nat → Int64) (rv sp rr w nw : Nat) (hrv : rv = 3 ∨ rv = 19) (out : Int32 × (Nat → Nat → Int32)) (e : fX11_image n x1 I rv = some out) : mm_T none (d + 4) 201 (mm_ent 201 [(.ref 1), (.int x1)]) (107, I, J, mm_rf rv sp rr w nw) (fun v h => v = some (.int out.1) ∧ h = (107, out.2, J, mm_rf rv sp rr w nw)) := by
  rcases hrv with rfl | rfl
  · unfold fX11_image at e
    refine mm_T.seg (f' := (5, [some (.ref 1), some (.int x1)], [(.int x1), (.ref 33)])) (h' := (107, I, J, mm_rf 3 sp rr w nw)) 3 rfl ?_
    obtain ⟨o2449, eo2449, e⟩ := mm_bind e
    refine mm_T.call (t := 20) (as := [(.ref 33), (.int x1)]) (f' := (8, [some (.ref 1), some (.int x1)], [])) rfl (tX2_fillBox (d + 1) n x1 I J 3 sp rr w nw o2449 eo2449) (fun v h hq => ?_)
    obtain ⟨rfl, rfl⟩ := hq
    refine mm_T.br (c := o2449.1 = 0) (a := ((21, [some (.ref 1), some (.int x1)], []), (107, o2449.2, J, mm_rf 3 sp rr w nw))) (b := ((11, [some (.ref 1), some (.int x1)], []), (107, o2449.2, J, mm_rf 3 sp rr w nw))) rfl (fun h2450 => ?_) (fun h2450 => ?_)
    · rw [if_pos h2450] at e
      refine mm_T.seg (f' := (22, [some (.ref 1), some (.int x1)], [(.int (-1))])) (h' := (107, o2449.2, J, mm_rf 3 sp rr w nw)) 1 rfl ?_
      cases e
      exact mm_T.ret rfl ⟨rfl, rfl⟩
    · rw [if_neg h2450] at e
      refine mm_T.seg (f' := (15, [some (.ref 1), some (.int x1)], [(.ref 18)])) (h' := (107, o2449.2, J, mm_rf 3 sp rr w nw)) 2 rfl ?_
      obtain ⟨o2451, eo2451, e⟩ := mm_bind e
      refine mm_T.call (t := 117) (as := [(.ref 18)]) (f' := (18, [some (.ref 1), some (.int x1)], [])) rfl (tX7_countOver (d + 0) n o2449.2 J 3 sp rr w nw (Or.inl rfl) o2451 eo2451) (fun v h hq => ?_)
      obtain ⟨rfl, rfl⟩ := hq
      refine mm_T.seg (f' := (22, [some (.ref 1), some (.int x1)], [(.int o2451)])) (h' := (107, o2449.2, J, mm_rf 3 sp rr w nw)) 1 rfl ?_
      cases e
      exact mm_T.ret rfl ⟨rfl, rfl⟩
  · unfold fX11_image at e
    refine mm_T.seg (f' := (5, [some (.ref 1), some (.int x1)], [(.int x1), (.ref 33)])) (h' := (107, I, J, mm_rf 19 sp rr w nw)) 3 rfl ?_
    obtain ⟨o2449, eo2449, e⟩ := mm_bind e
    refine mm_T.call (t := 20) (as := [(.ref 33), (.int x1)]) (f' := (8, [some (.ref 1), some (.int x1)], [])) rfl (tX2_fillBox (d + 1) n x1 I J 19 sp rr w nw o2449 eo2449) (fun v h hq => ?_)
    obtain ⟨rfl, rfl⟩ := hq
    refine mm_T.br (c := o2449.1 = 0) (a := ((21, [some (.ref 1), some (.int x1)], []), (107, o2449.2, J, mm_rf 19 sp rr w nw))) (b := ((11, [some (.ref 1), some (.int x1)], []), (107, o2449.2, J, mm_rf 19 sp rr w nw))) rfl (fun h2450 => ?_) (fun h2450 => ?_)
    · rw [if_pos h2450] at e
      refine mm_T.seg (f' := (22, [some (.ref 1), some (.int x1)], [(.int (-1))])) (h' := (107, o2449.2, J, mm_rf 19 sp rr w nw)) 1 rfl ?_
      cases e
      exact mm_T.ret rfl ⟨rfl, rfl⟩
    · rw [if_neg h2450] at e
      refine mm_T.seg (f' := (15, [some (.ref 1), some (.int x1)], [(.ref 18)])) (h' := (107, o2449.2, J, mm_rf 19 sp rr w nw)) 2 rfl ?_
      obtain ⟨o2451, eo2451, e⟩ := mm_bind e
      refine mm_T.call (t := 117) (as := [(.ref 18)]) (f' := (18, [some (.ref 1), some (.int x1)], [])) rfl (tX7_countOver (d + 0) n o2449.2 J 19 sp rr w nw (Or.inr rfl) o2451 eo2451) (fun v h hq => ?_)
      obtain ⟨rfl, rfl⟩ := hq
      refine mm_T.seg (f' := (22, [some (.ref 1), some (.int x1)], [(.int o2451)])) (h' := (107, o2449.2, J, mm_rf 19 sp rr w nw)) 1 rfl ?_
      cases e
      exact mm_T.ret rfl ⟨rfl, rfl⟩
set_option maxRecDepth 100000 in
set_option maxHeartbeats 4000000 in
theorem tX11_back (d n : Nat) (x1 : Int32) (I : Nat → Nat → Int32) (J : Nat → Nat → Int64) (rv sp rr w nw : Nat) (hrv : rv = 3 ∨ rv = 19) (out : Int32 × (Nat → Nat → Int32)) (e : fX11_back n x1 I rv = some out) : mm_T none (d + 4) 202 (mm_ent 202 [(.ref 1), (.int x1)]) (107, I, J, mm_rf rv sp rr w nw) (fun v h => v = some (.int out.1) ∧ h = (107, out.2, J, mm_rf rv sp rr w nw)) := by
  rcases hrv with rfl | rfl
  · unfold fX11_back at e
    refine mm_T.seg (f' := (5, [some (.ref 1), some (.int x1)], [(.int x1), (.ref 33)])) (h' := (107, I, J, mm_rf 3 sp rr w nw)) 3 rfl ?_
    obtain ⟨o2452, eo2452, e⟩ := mm_bind e
    refine mm_T.call (t := 21) (as := [(.ref 33), (.int x1)]) (f' := (8, [some (.ref 1), some (.int x1)], [])) rfl (tX2_openBox (d + 1) n x1 I J 3 sp rr w nw o2452 eo2452) (fun v h hq => ?_)
    obtain ⟨rfl, rfl⟩ := hq
    refine mm_T.br (c := o2452.1 = 0) (a := ((21, [some (.ref 1), some (.int x1)], []), (107, o2452.2, J, mm_rf 3 sp rr w nw))) (b := ((11, [some (.ref 1), some (.int x1)], []), (107, o2452.2, J, mm_rf 3 sp rr w nw))) rfl (fun h2453 => ?_) (fun h2453 => ?_)
    · rw [if_pos h2453] at e
      refine mm_T.seg (f' := (22, [some (.ref 1), some (.int x1)], [(.int (-1))])) (h' := (107, o2452.2, J, mm_rf 3 sp rr w nw)) 1 rfl ?_
      cases e
      exact mm_T.ret rfl ⟨rfl, rfl⟩
    · rw [if_neg h2453] at e
      refine mm_T.seg (f' := (15, [some (.ref 1), some (.int x1)], [(.ref 18)])) (h' := (107, o2452.2, J, mm_rf 3 sp rr w nw)) 2 rfl ?_
      obtain ⟨o2454, eo2454, e⟩ := mm_bind e
      refine mm_T.call (t := 117) (as := [(.ref 18)]) (f' := (18, [some (.ref 1), some (.int x1)], [])) rfl (tX7_countOver (d + 0) n o2452.2 J 3 sp rr w nw (Or.inl rfl) o2454 eo2454) (fun v h hq => ?_)
      obtain ⟨rfl, rfl⟩ := hq
      refine mm_T.seg (f' := (22, [some (.ref 1), some (.int x1)], [(.int o2454)])) (h' := (107, o2452.2, J, mm_rf 3 sp rr w nw)) 1 rfl ?_
      cases e
      exact mm_T.ret rfl ⟨rfl, rfl⟩
  · unfold fX11_back at e
    refine mm_T.seg (f' := (5, [some (.ref 1), some (.int x1)], [(.int x1), (.ref 33)])) (h' := (107, I, J, mm_rf 19 sp rr w nw)) 3 rfl ?_
    obtain ⟨o2452, eo2452, e⟩ := mm_bind e
    refine mm_T.call (t := 21) (as := [(.ref 33), (.int x1)]) (f' := (8, [some (.ref 1), some (.int x1)], [])) rfl (tX2_openBox (d + 1) n x1 I J 19 sp rr w nw o2452 eo2452) (fun v h hq => ?_)
    obtain ⟨rfl, rfl⟩ := hq
    refine mm_T.br (c := o2452.1 = 0) (a := ((21, [some (.ref 1), some (.int x1)], []), (107, o2452.2, J, mm_rf 19 sp rr w nw))) (b := ((11, [some (.ref 1), some (.int x1)], []), (107, o2452.2, J, mm_rf 19 sp rr w nw))) rfl (fun h2453 => ?_) (fun h2453 => ?_)
    · rw [if_pos h2453] at e
      refine mm_T.seg (f' := (22, [some (.ref 1), some (.int x1)], [(.int (-1))])) (h' := (107, o2452.2, J, mm_rf 19 sp rr w nw)) 1 rfl ?_
      cases e
      exact mm_T.ret rfl ⟨rfl, rfl⟩
    · rw [if_neg h2453] at e
      refine mm_T.seg (f' := (15, [some (.ref 1), some (.int x1)], [(.ref 18)])) (h' := (107, o2452.2, J, mm_rf 19 sp rr w nw)) 2 rfl ?_
      obtain ⟨o2454, eo2454, e⟩ := mm_bind e
      refine mm_T.call (t := 117) (as := [(.ref 18)]) (f' := (18, [some (.ref 1), some (.int x1)], [])) rfl (tX7_countOver (d + 0) n o2452.2 J 19 sp rr w nw (Or.inr rfl) o2454 eo2454) (fun v h hq => ?_)
      obtain ⟨rfl, rfl⟩ := hq
      refine mm_T.seg (f' := (22, [some (.ref 1), some (.int x1)], [(.int o2454)])) (h' := (107, o2452.2, J, mm_rf 19 sp rr w nw)) 1 rfl ?_
      cases e
      exact mm_T.ret rfl ⟨rfl, rfl⟩
set_option maxRecDepth 100000 in
set_option maxHeartbeats 4000000 in
theorem tX11_about (d : Nat) (x1 : Int32) (I : Nat → Nat → Int32) (J : Nat → Nat → Int64) (rv sp rr w nw : Nat) (hrv : rv = 3 ∨ rv = 19) (out : Int32) (e : fX11_about x1 I rv = out) : mm_T none (d + 2) 203 (mm_ent 203 [(.ref 1), (.int x1)]) (107, I, J, mm_rf rv sp rr w nw) (fun v h => v = some (.int out) ∧ h = (107, I, J, mm_rf rv sp rr w nw)) := by
  rcases hrv with rfl | rfl
  · unfold fX11_about at e
    refine mm_T.seg (f' := (1, [some (.ref 1), some (.int x1)], [(.int x1)])) (h' := (107, I, J, mm_rf 3 sp rr w nw)) 1 rfl ?_
    by_cases h2455 : x1 = 0
    · rw [if_pos h2455] at e
      refine mm_T.step (f' := (68, [some (.ref 1), some (.int x1)], [])) (h' := (107, I, J, mm_rf 3 sp rr w nw)) (by first | (rw [h2455]; rfl) | exact absurd h2455 (by decide)) ?_
      refine mm_T.seg (f' := (78, [some (.ref 1), some (.int x1)], [(.int (I 3 4))])) (h' := (107, I, J, mm_rf 3 sp rr w nw)) 4 rfl ?_
      cases e
      exact mm_T.ret rfl ⟨rfl, rfl⟩
    · rw [if_neg h2455] at e
      by_cases h2456 : x1 = 1
      · rw [if_pos h2456] at e
        refine mm_T.step (f' := (79, [some (.ref 1), some (.int x1)], [])) (h' := (107, I, J, mm_rf 3 sp rr w nw)) (by first | (rw [h2456]; rfl) | exact absurd h2456 (by decide)) ?_
        refine mm_T.seg (f' := (89, [some (.ref 1), some (.int x1)], [(.int (I 3 5))])) (h' := (107, I, J, mm_rf 3 sp rr w nw)) 4 rfl ?_
        cases e
        exact mm_T.ret rfl ⟨rfl, rfl⟩
      · rw [if_neg h2456] at e
        by_cases h2457 : x1 = 2
        · rw [if_pos h2457] at e
          refine mm_T.step (f' := (90, [some (.ref 1), some (.int x1)], [])) (h' := (107, I, J, mm_rf 3 sp rr w nw)) (by first | (rw [h2457]; rfl) | exact absurd h2457 (by decide)) ?_
          refine mm_T.seg (f' := (100, [some (.ref 1), some (.int x1)], [(.int (I 3 0))])) (h' := (107, I, J, mm_rf 3 sp rr w nw)) 4 rfl ?_
          cases e
          exact mm_T.ret rfl ⟨rfl, rfl⟩
        · rw [if_neg h2457] at e
          by_cases h2458 : x1 = 3
          · rw [if_pos h2458] at e
            refine mm_T.step (f' := (101, [some (.ref 1), some (.int x1)], [])) (h' := (107, I, J, mm_rf 3 sp rr w nw)) (by first | (rw [h2458]; rfl) | exact absurd h2458 (by decide)) ?_
            refine mm_T.seg (f' := (111, [some (.ref 1), some (.int x1)], [(.int (I 3 1))])) (h' := (107, I, J, mm_rf 3 sp rr w nw)) 4 rfl ?_
            cases e
            exact mm_T.ret rfl ⟨rfl, rfl⟩
          · rw [if_neg h2458] at e
            by_cases h2459 : x1 = 4
            · rw [if_pos h2459] at e
              refine mm_T.step (f' := (112, [some (.ref 1), some (.int x1)], [])) (h' := (107, I, J, mm_rf 3 sp rr w nw)) (by first | (rw [h2459]; rfl) | exact absurd h2459 (by decide)) ?_
              refine mm_T.seg (f' := (122, [some (.ref 1), some (.int x1)], [(.int (I 3 6))])) (h' := (107, I, J, mm_rf 3 sp rr w nw)) 4 rfl ?_
              cases e
              exact mm_T.ret rfl ⟨rfl, rfl⟩
            · rw [if_neg h2459] at e
              by_cases h2460 : x1 = 5
              · rw [if_pos h2460] at e
                refine mm_T.step (f' := (123, [some (.ref 1), some (.int x1)], [])) (h' := (107, I, J, mm_rf 3 sp rr w nw)) (by first | (rw [h2460]; rfl) | exact absurd h2460 (by decide)) ?_
                refine mm_T.seg (f' := (127, [some (.ref 1), some (.int x1)], [(.ref 18)])) (h' := (107, I, J, mm_rf 3 sp rr w nw)) 2 rfl ?_
                refine mm_T.call (t := 114) (as := [(.ref 18)]) (f' := (130, [some (.ref 1), some (.int x1)], [])) rfl (tX7_seed (d + 0) I J 3 sp rr w nw _ rfl) (fun v h hq => ?_)
                obtain ⟨rfl, rfl⟩ := hq
                cases e
                exact mm_T.ret rfl ⟨rfl, rfl⟩
              · rw [if_neg h2460] at e
                by_cases h2461 : x1 = 6
                · rw [if_pos h2461] at e
                  refine mm_T.step (f' := (131, [some (.ref 1), some (.int x1)], [])) (h' := (107, I, J, mm_rf 3 sp rr w nw)) (by first | (rw [h2461]; rfl) | exact absurd h2461 (by decide)) ?_
                  refine mm_T.seg (f' := (138, [some (.ref 1), some (.int x1)], [(.int (I 33 4))])) (h' := (107, I, J, mm_rf 3 sp rr w nw)) 3 rfl ?_
                  cases e
                  exact mm_T.ret rfl ⟨rfl, rfl⟩
                · rw [if_neg h2461] at e
                  by_cases h2462 : x1 = 7
                  · rw [if_pos h2462] at e
                    refine mm_T.step (f' := (139, [some (.ref 1), some (.int x1)], [])) (h' := (107, I, J, mm_rf 3 sp rr w nw)) (by first | (rw [h2462]; rfl) | exact absurd h2462 (by decide)) ?_
                    refine mm_T.seg (f' := (146, [some (.ref 1), some (.int x1)], [(.int (I 33 5))])) (h' := (107, I, J, mm_rf 3 sp rr w nw)) 3 rfl ?_
                    cases e
                    exact mm_T.ret rfl ⟨rfl, rfl⟩
                  · rw [if_neg h2462] at e
                    by_cases h2463 : x1 = 8
                    · rw [if_pos h2463] at e
                      refine mm_T.step (f' := (147, [some (.ref 1), some (.int x1)], [])) (h' := (107, I, J, mm_rf 3 sp rr w nw)) (by first | (rw [h2463]; rfl) | exact absurd h2463 (by decide)) ?_
                      refine mm_T.seg (f' := (154, [some (.ref 1), some (.int x1)], [(.int (I 54 9))])) (h' := (107, I, J, mm_rf 3 sp rr w nw)) 3 rfl ?_
                      cases e
                      exact mm_T.ret rfl ⟨rfl, rfl⟩
                    · rw [if_neg h2463] at e
                      by_cases h2464 : x1 = 9
                      · rw [if_pos h2464] at e
                        refine mm_T.step (f' := (155, [some (.ref 1), some (.int x1)], [])) (h' := (107, I, J, mm_rf 3 sp rr w nw)) (by first | (rw [h2464]; rfl) | exact absurd h2464 (by decide)) ?_
                        refine mm_T.seg (f' := (162, [some (.ref 1), some (.int x1)], [(.int (I 54 10))])) (h' := (107, I, J, mm_rf 3 sp rr w nw)) 3 rfl ?_
                        cases e
                        exact mm_T.ret rfl ⟨rfl, rfl⟩
                      · rw [if_neg h2464] at e
                        by_cases h2465 : x1 = 10
                        · rw [if_pos h2465] at e
                          refine mm_T.step (f' := (163, [some (.ref 1), some (.int x1)], [])) (h' := (107, I, J, mm_rf 3 sp rr w nw)) (by first | (rw [h2465]; rfl) | exact absurd h2465 (by decide)) ?_
                          refine mm_T.seg (f' := (167, [some (.ref 1), some (.int x1)], [(.int (I 1 1))])) (h' := (107, I, J, mm_rf 3 sp rr w nw)) 2 rfl ?_
                          cases e
                          exact mm_T.ret rfl ⟨rfl, rfl⟩
                        · rw [if_neg h2465] at e
                          by_cases h2466 : x1 = 11
                          · rw [if_pos h2466] at e
                            refine mm_T.step (f' := (168, [some (.ref 1), some (.int x1)], [])) (h' := (107, I, J, mm_rf 3 sp rr w nw)) (by first | (rw [h2466]; rfl) | exact absurd h2466 (by decide)) ?_
                            refine mm_T.seg (f' := (181, [some (.ref 1), some (.int x1)], [(.int (I (3 + 1) 4))])) (h' := (107, I, J, mm_rf 3 sp rr w nw)) 5 rfl ?_
                            cases e
                            exact mm_T.ret rfl ⟨rfl, rfl⟩
                          · rw [if_neg h2466] at e
                            by_cases h2467 : x1 = 12
                            · rw [if_pos h2467] at e
                              refine mm_T.step (f' := (182, [some (.ref 1), some (.int x1)], [])) (h' := (107, I, J, mm_rf 3 sp rr w nw)) (by first | (rw [h2467]; rfl) | exact absurd h2467 (by decide)) ?_
                              refine mm_T.seg (f' := (189, [some (.ref 1), some (.int x1)], [(.int (I 35 1))])) (h' := (107, I, J, mm_rf 3 sp rr w nw)) 3 rfl ?_
                              cases e
                              exact mm_T.ret rfl ⟨rfl, rfl⟩
                            · rw [if_neg h2467] at e
                              refine mm_T.tabs (lo := 0) (hi := 12) (y := ((190, [some (.ref 1), some (.int x1)], []), (107, I, J, mm_rf 3 sp rr w nw))) rfl (mm_swo (0) (12) x1 [0, 1, 2, 3, 4, 5, 6, 7, 8, 9, 10, 11, 12] (by decide) (by intro z hz; simp only [List.mem_cons, List.not_mem_nil, or_false] at hz; rcases hz with rfl | rfl | rfl | rfl | rfl | rfl | rfl | rfl | rfl | rfl | rfl | rfl | rfl <;> first | assumption | decide)) ?_
                              refine mm_T.seg (f' := (191, [some (.ref 1), some (.int x1)], [(.int (-1))])) (h' := (107, I, J, mm_rf 3 sp rr w nw)) 1 rfl ?_
                              cases e
                              exact mm_T.ret rfl ⟨rfl, rfl⟩
  · unfold fX11_about at e
    refine mm_T.seg (f' := (1, [some (.ref 1), some (.int x1)], [(.int x1)])) (h' := (107, I, J, mm_rf 19 sp rr w nw)) 1 rfl ?_
    by_cases h2455 : x1 = 0
    · rw [if_pos h2455] at e
      refine mm_T.step (f' := (68, [some (.ref 1), some (.int x1)], [])) (h' := (107, I, J, mm_rf 19 sp rr w nw)) (by first | (rw [h2455]; rfl) | exact absurd h2455 (by decide)) ?_
      refine mm_T.seg (f' := (78, [some (.ref 1), some (.int x1)], [(.int (I 19 4))])) (h' := (107, I, J, mm_rf 19 sp rr w nw)) 4 rfl ?_
      cases e
      exact mm_T.ret rfl ⟨rfl, rfl⟩
    · rw [if_neg h2455] at e
      by_cases h2456 : x1 = 1
      · rw [if_pos h2456] at e
        refine mm_T.step (f' := (79, [some (.ref 1), some (.int x1)], [])) (h' := (107, I, J, mm_rf 19 sp rr w nw)) (by first | (rw [h2456]; rfl) | exact absurd h2456 (by decide)) ?_
        refine mm_T.seg (f' := (89, [some (.ref 1), some (.int x1)], [(.int (I 19 5))])) (h' := (107, I, J, mm_rf 19 sp rr w nw)) 4 rfl ?_
        cases e
        exact mm_T.ret rfl ⟨rfl, rfl⟩
      · rw [if_neg h2456] at e
        by_cases h2457 : x1 = 2
        · rw [if_pos h2457] at e
          refine mm_T.step (f' := (90, [some (.ref 1), some (.int x1)], [])) (h' := (107, I, J, mm_rf 19 sp rr w nw)) (by first | (rw [h2457]; rfl) | exact absurd h2457 (by decide)) ?_
          refine mm_T.seg (f' := (100, [some (.ref 1), some (.int x1)], [(.int (I 19 0))])) (h' := (107, I, J, mm_rf 19 sp rr w nw)) 4 rfl ?_
          cases e
          exact mm_T.ret rfl ⟨rfl, rfl⟩
        · rw [if_neg h2457] at e
          by_cases h2458 : x1 = 3
          · rw [if_pos h2458] at e
            refine mm_T.step (f' := (101, [some (.ref 1), some (.int x1)], [])) (h' := (107, I, J, mm_rf 19 sp rr w nw)) (by first | (rw [h2458]; rfl) | exact absurd h2458 (by decide)) ?_
            refine mm_T.seg (f' := (111, [some (.ref 1), some (.int x1)], [(.int (I 19 1))])) (h' := (107, I, J, mm_rf 19 sp rr w nw)) 4 rfl ?_
            cases e
            exact mm_T.ret rfl ⟨rfl, rfl⟩
          · rw [if_neg h2458] at e
            by_cases h2459 : x1 = 4
            · rw [if_pos h2459] at e
              refine mm_T.step (f' := (112, [some (.ref 1), some (.int x1)], [])) (h' := (107, I, J, mm_rf 19 sp rr w nw)) (by first | (rw [h2459]; rfl) | exact absurd h2459 (by decide)) ?_
              refine mm_T.seg (f' := (122, [some (.ref 1), some (.int x1)], [(.int (I 19 6))])) (h' := (107, I, J, mm_rf 19 sp rr w nw)) 4 rfl ?_
              cases e
              exact mm_T.ret rfl ⟨rfl, rfl⟩
            · rw [if_neg h2459] at e
              by_cases h2460 : x1 = 5
              · rw [if_pos h2460] at e
                refine mm_T.step (f' := (123, [some (.ref 1), some (.int x1)], [])) (h' := (107, I, J, mm_rf 19 sp rr w nw)) (by first | (rw [h2460]; rfl) | exact absurd h2460 (by decide)) ?_
                refine mm_T.seg (f' := (127, [some (.ref 1), some (.int x1)], [(.ref 18)])) (h' := (107, I, J, mm_rf 19 sp rr w nw)) 2 rfl ?_
                refine mm_T.call (t := 114) (as := [(.ref 18)]) (f' := (130, [some (.ref 1), some (.int x1)], [])) rfl (tX7_seed (d + 0) I J 19 sp rr w nw _ rfl) (fun v h hq => ?_)
                obtain ⟨rfl, rfl⟩ := hq
                cases e
                exact mm_T.ret rfl ⟨rfl, rfl⟩
              · rw [if_neg h2460] at e
                by_cases h2461 : x1 = 6
                · rw [if_pos h2461] at e
                  refine mm_T.step (f' := (131, [some (.ref 1), some (.int x1)], [])) (h' := (107, I, J, mm_rf 19 sp rr w nw)) (by first | (rw [h2461]; rfl) | exact absurd h2461 (by decide)) ?_
                  refine mm_T.seg (f' := (138, [some (.ref 1), some (.int x1)], [(.int (I 33 4))])) (h' := (107, I, J, mm_rf 19 sp rr w nw)) 3 rfl ?_
                  cases e
                  exact mm_T.ret rfl ⟨rfl, rfl⟩
                · rw [if_neg h2461] at e
                  by_cases h2462 : x1 = 7
                  · rw [if_pos h2462] at e
                    refine mm_T.step (f' := (139, [some (.ref 1), some (.int x1)], [])) (h' := (107, I, J, mm_rf 19 sp rr w nw)) (by first | (rw [h2462]; rfl) | exact absurd h2462 (by decide)) ?_
                    refine mm_T.seg (f' := (146, [some (.ref 1), some (.int x1)], [(.int (I 33 5))])) (h' := (107, I, J, mm_rf 19 sp rr w nw)) 3 rfl ?_
                    cases e
                    exact mm_T.ret rfl ⟨rfl, rfl⟩
                  · rw [if_neg h2462] at e
                    by_cases h2463 : x1 = 8
                    · rw [if_pos h2463] at e
                      refine mm_T.step (f' := (147, [some (.ref 1), some (.int x1)], [])) (h' := (107, I, J, mm_rf 19 sp rr w nw)) (by first | (rw [h2463]; rfl) | exact absurd h2463 (by decide)) ?_
                      refine mm_T.seg (f' := (154, [some (.ref 1), some (.int x1)], [(.int (I 54 9))])) (h' := (107, I, J, mm_rf 19 sp rr w nw)) 3 rfl ?_
                      cases e
                      exact mm_T.ret rfl ⟨rfl, rfl⟩
                    · rw [if_neg h2463] at e
                      by_cases h2464 : x1 = 9
                      · rw [if_pos h2464] at e
                        refine mm_T.step (f' := (155, [some (.ref 1), some (.int x1)], [])) (h' := (107, I, J, mm_rf 19 sp rr w nw)) (by first | (rw [h2464]; rfl) | exact absurd h2464 (by decide)) ?_
                        refine mm_T.seg (f' := (162, [some (.ref 1), some (.int x1)], [(.int (I 54 10))])) (h' := (107, I, J, mm_rf 19 sp rr w nw)) 3 rfl ?_
                        cases e
                        exact mm_T.ret rfl ⟨rfl, rfl⟩
                      · rw [if_neg h2464] at e
                        by_cases h2465 : x1 = 10
                        · rw [if_pos h2465] at e
                          refine mm_T.step (f' := (163, [some (.ref 1), some (.int x1)], [])) (h' := (107, I, J, mm_rf 19 sp rr w nw)) (by first | (rw [h2465]; rfl) | exact absurd h2465 (by decide)) ?_
                          refine mm_T.seg (f' := (167, [some (.ref 1), some (.int x1)], [(.int (I 1 1))])) (h' := (107, I, J, mm_rf 19 sp rr w nw)) 2 rfl ?_
                          cases e
                          exact mm_T.ret rfl ⟨rfl, rfl⟩
                        · rw [if_neg h2465] at e
                          by_cases h2466 : x1 = 11
                          · rw [if_pos h2466] at e
                            refine mm_T.step (f' := (168, [some (.ref 1), some (.int x1)], [])) (h' := (107, I, J, mm_rf 19 sp rr w nw)) (by first | (rw [h2466]; rfl) | exact absurd h2466 (by decide)) ?_
                            refine mm_T.seg (f' := (181, [some (.ref 1), some (.int x1)], [(.int (I (19 + 1) 4))])) (h' := (107, I, J, mm_rf 19 sp rr w nw)) 5 rfl ?_
                            cases e
                            exact mm_T.ret rfl ⟨rfl, rfl⟩
                          · rw [if_neg h2466] at e
                            by_cases h2467 : x1 = 12
                            · rw [if_pos h2467] at e
                              refine mm_T.step (f' := (182, [some (.ref 1), some (.int x1)], [])) (h' := (107, I, J, mm_rf 19 sp rr w nw)) (by first | (rw [h2467]; rfl) | exact absurd h2467 (by decide)) ?_
                              refine mm_T.seg (f' := (189, [some (.ref 1), some (.int x1)], [(.int (I 35 1))])) (h' := (107, I, J, mm_rf 19 sp rr w nw)) 3 rfl ?_
                              cases e
                              exact mm_T.ret rfl ⟨rfl, rfl⟩
                            · rw [if_neg h2467] at e
                              refine mm_T.tabs (lo := 0) (hi := 12) (y := ((190, [some (.ref 1), some (.int x1)], []), (107, I, J, mm_rf 19 sp rr w nw))) rfl (mm_swo (0) (12) x1 [0, 1, 2, 3, 4, 5, 6, 7, 8, 9, 10, 11, 12] (by decide) (by intro z hz; simp only [List.mem_cons, List.not_mem_nil, or_false] at hz; rcases hz with rfl | rfl | rfl | rfl | rfl | rfl | rfl | rfl | rfl | rfl | rfl | rfl | rfl <;> first | assumption | decide)) ?_
                              refine mm_T.seg (f' := (191, [some (.ref 1), some (.int x1)], [(.int (-1))])) (h' := (107, I, J, mm_rf 19 sp rr w nw)) 1 rfl ?_
                              cases e
                              exact mm_T.ret rfl ⟨rfl, rfl⟩
