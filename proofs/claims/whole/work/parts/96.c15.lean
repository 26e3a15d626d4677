set_option maxRecDepth 100000 in
set_option maxHeartbeats 4000000 in
theorem tX11_untell (d : Nat) (x1 : Int32) (I : Nat → Nat → Int32) (J : Nat → Nat → Int64) (rv sp rr w nw : Nat) (out : Int32 × (Nat → Nat → Int32)) (e : fX11_untell x1 I = some out) : mm_T none (d + 3) 196 (mm_ent 196 [(.ref 1), (.int x1)]) (107, I, J, mm_rf rv sp rr w nw) (fun v h => v = some (.int out.1) ∧ h = (107, out.2, J, mm_rf rv sp rr w nw)) := by
  unfold fX11_untell at e
  refine mm_T.seg (f' := (4, [some (.ref 1), some (.int x1)], [(.ref 54)])) (h' := (107, I, J, mm_rf rv sp rr w nw)) 2 rfl ?_
  refine mm_T.seg (f' := (5, [some (.ref 1), some (.int x1)], [(.int x1), (.ref 54)])) (h' := (107, I, J, mm_rf rv sp rr w nw)) 1 rfl ?_
  obtain ⟨g494, hg494⟩ : ∃ z, fX10_takeBack x1 I = z := ⟨_, rfl⟩
  try rw [hg494] at e
  refine mm_T.call (t := 144) (as := [(.ref 54), (.int x1)]) (f' := (8, [some (.ref 1), some (.int x1)], [])) rfl (tX10_takeBack (d + 0) x1 I J rv sp rr w nw g494 hg494) (fun v h hq => ?_)
  obtain ⟨rfl, rfl⟩ := hq
  by_cases h2440 : g494.1 = 0 ∨ g494.1 = 1
  case neg => rw [if_neg h2440] at e; cases e
  rw [if_pos h2440] at e
  cases e
  first | exact mm_T.retZ (v := some (.int g494.1)) rfl h2440 ⟨rfl, rfl⟩ | exact mm_T.retZ (v := some (.int out)) rfl h2440 ⟨rfl, rfl⟩
set_option maxRecDepth 100000 in
set_option maxHeartbeats 4000000 in
theorem tX11_later (d : Nat) (x1 : Int32) (I : Nat → Nat → Int32) (J : Nat → Nat → Int64) (rv sp rr w nw : Nat) (out : Int32 × (Nat → Nat → Int32)) (e : fX11_later x1 I = out) : mm_T none (d + 1) 197 (mm_ent 197 [(.ref 1), (.int x1)]) (107, I, J, mm_rf rv sp rr w nw) (fun v h => v = some (.int out.1) ∧ h = (107, out.2, J, mm_rf rv sp rr w nw)) := by
  unfold fX11_later at e
  refine mm_T.seg (f' := (4, [some (.ref 1), some (.int x1)], [(.ref 54)])) (h' := (107, I, J, mm_rf rv sp rr w nw)) 2 rfl ?_
  refine mm_T.seg (f' := (5, [some (.ref 1), some (.int x1)], [(.int x1), (.ref 54)])) (h' := (107, I, J, mm_rf rv sp rr w nw)) 1 rfl ?_
  obtain ⟨g495, hg495⟩ : ∃ z, fX10_goOn x1 I = z := ⟨_, rfl⟩
  try rw [hg495] at e
  refine mm_T.call (t := 145) (as := [(.ref 54), (.int x1)]) (f' := (8, [some (.ref 1), some (.int x1)], [])) rfl (tX10_goOn (d + 0) x1 I J rv sp rr w nw g495 hg495) (fun v h hq => ?_)
  obtain ⟨rfl, rfl⟩ := hq
  cases e
  exact mm_T.ret rfl ⟨rfl, rfl⟩
set_option maxRecDepth 100000 in
set_option maxHeartbeats 4000000 in
theorem tX11_fits (d n : Nat) (x1 : Int32) (I : Nat → Nat → Int32) (J : Nat → Nat → Int64) (rv sp rr w nw : Nat) (hrv : rv = 3 ∨ rv = 19) (out : Int32 × (Nat → Nat → Int32)) (e : fX11_fits n x1 I rv = some out) : mm_T none (d + 18) 198 (mm_ent 198 [(.ref 1), (.int x1)]) (107, I, J, mm_rf rv sp rr w nw) (fun v h => v = some (.int out.1) ∧ h = (107, out.2, J, mm_rf rv sp rr w nw)) := by
  rcases hrv with rfl | rfl
  · unfold fX11_fits at e
    refine mm_T.seg (f' := (4, [some (.ref 1), some (.int x1)], [(.ref 54)])) (h' := (107, I, J, mm_rf 3 sp rr w nw)) 2 rfl ?_
    refine mm_T.seg (f' := (5, [some (.ref 1), some (.int x1)], [(.int x1), (.ref 54)])) (h' := (107, I, J, mm_rf 3 sp rr w nw)) 1 rfl ?_
    obtain ⟨o2441, eo2441, e⟩ := mm_bind e
    refine mm_T.call (t := 152) (as := [(.ref 54), (.int x1)]) (f' := (8, [some (.ref 1), some (.int x1)], [])) rfl (tX10_countFits (d + 0) n x1 I J 3 sp rr w nw (Or.inl rfl) o2441 eo2441) (fun v h hq => ?_)
    obtain ⟨rfl, rfl⟩ := hq
    cases e
    exact mm_T.ret rfl ⟨rfl, rfl⟩
  · unfold fX11_fits at e
    refine mm_T.seg (f' := (4, [some (.ref 1), some (.int x1)], [(.ref 54)])) (h' := (107, I, J, mm_rf 19 sp rr w nw)) 2 rfl ?_
    refine mm_T.seg (f' := (5, [some (.ref 1), some (.int x1)], [(.int x1), (.ref 54)])) (h' := (107, I, J, mm_rf 19 sp rr w nw)) 1 rfl ?_
    obtain ⟨o2441, eo2441, e⟩ := mm_bind e
    refine mm_T.call (t := 152) (as := [(.ref 54), (.int x1)]) (f' := (8, [some (.ref 1), some (.int x1)], [])) rfl (tX10_countFits (d + 0) n x1 I J 19 sp rr w nw (Or.inr rfl) o2441 eo2441) (fun v h hq => ?_)
    obtain ⟨rfl, rfl⟩ := hq
    cases e
    exact mm_T.ret rfl ⟨rfl, rfl⟩
set_option maxRecDepth 100000 in
set_option maxHeartbeats 4000000 in
theorem tX11_sure (d n : Nat) (x1 : Int32) (x2 : Int32) (I : Nat → Nat → Int32) (J : Nat → Nat → Int64) (rv sp rr w nw : Nat) (hrv : rv = 3 ∨ rv = 19) (out : Int32 × (Nat → Nat → Int32)) (e : fX11_sure n x1 x2 I rv = some out) : mm_T none (d + 19) 199 (mm_ent 199 [(.ref 1), (.int x1), (.int x2)]) (107, I, J, mm_rf rv sp rr w nw) (fun v h => v = some (.int out.1) ∧ h = (107, out.2, J, mm_rf rv sp rr w nw)) := by
  rcases hrv with rfl | rfl
  · unfold fX11_sure at e
    refine mm_T.seg (f' := (4, [some (.ref 1), some (.int x1), some (.int x2)], [(.ref 54)])) (h' := (107, I, J, mm_rf 3 sp rr w nw)) 2 rfl ?_
    refine mm_T.seg (f' := (6, [some (.ref 1), some (.int x1), some (.int x2)], [(.int x2), (.int x1), (.ref 54)])) (h' := (107, I, J, mm_rf 3 sp rr w nw)) 2 rfl ?_
    obtain ⟨o2442, eo2442, e⟩ := mm_bind e
    refine mm_T.call (t := 155) (as := [(.ref 54), (.int x1), (.int x2)]) (f' := (9, [some (.ref 1), some (.int x1), some (.int x2)], [])) rfl (tX10_sureSteer (d + 0) n x1 x2 I J 3 sp rr w nw (Or.inl rfl) o2442 eo2442) (fun v h hq => ?_)
    obtain ⟨rfl, rfl⟩ := hq
    cases e
    exact mm_T.ret rfl ⟨rfl, rfl⟩
  · unfold fX11_sure at e
    refine mm_T.seg (f' := (4, [some (.ref 1), some (.int x1), some (.int x2)], [(.ref 54)])) (h' := (107, I, J, mm_rf 19 sp rr w nw)) 2 rfl ?_
    refine mm_T.seg (f' := (6, [some (.ref 1), some (.int x1), some (.int x2)], [(.int x2), (.int x1), (.ref 54)])) (h' := (107, I, J, mm_rf 19 sp rr w nw)) 2 rfl ?_
    obtain ⟨o2442, eo2442, e⟩ := mm_bind e
    refine mm_T.call (t := 155) (as := [(.ref 54), (.int x1), (.int x2)]) (f' := (9, [some (.ref 1), some (.int x1), some (.int x2)], [])) rfl (tX10_sureSteer (d + 0) n x1 x2 I J 19 sp rr w nw (Or.inr rfl) o2442 eo2442) (fun v h hq => ?_)
    obtain ⟨rfl, rfl⟩ := hq
    cases e
    exact mm_T.ret rfl ⟨rfl, rfl⟩
set_option maxRecDepth 100000 in
set_option maxHeartbeats 4000000 in
theorem tX11_ask (d n : Nat) (x1 : Int32) (x2 : Int32) (I : Nat → Nat → Int32) (J : Nat → Nat → Int64) (rv sp rr w nw : Nat) (hrv : rv = 3 ∨ rv = 19) (out : Int32 × (Nat → Nat → Int32)) (e : fX11_ask n x1 x2 I rv = some out) : mm_T none (d + 19) 200 (mm_ent 200 [(.ref 1), (.int x1), (.int x2)]) (107, I, J, mm_rf rv sp rr w nw) (fun v h => v = some (.int out.1) ∧ h = (107, out.2, J, mm_rf rv sp rr w nw)) := by
  rcases hrv with rfl | rfl
  · unfold fX11_ask at e
    refine mm_T.seg (f' := (1, [some (.ref 1), some (.int x1), some (.int x2), none], [(.int x1)])) (h' := (107, I, J, mm_rf 3 sp rr w nw)) 1 rfl ?_
    refine mm_T.br (c := x1 < 0) (a := ((9, [some (.ref 1), some (.int x1), some (.int x2), none], []), (107, I, J, mm_rf 3 sp rr w nw))) (b := ((4, [some (.ref 1), some (.int x1), some (.int x2), none], []), (107, I, J, mm_rf 3 sp rr w nw))) rfl (fun h2443 => ?_) (fun h2443 => ?_)
    · rw [if_pos h2443] at e
      refine mm_T.seg (f' := (10, [some (.ref 1), some (.int x1), some (.int x2), none], [(.int (-1))])) (h' := (107, I, J, mm_rf 3 sp rr w nw)) 1 rfl ?_
      cases e
      exact mm_T.ret rfl ⟨rfl, rfl⟩
    · rw [if_neg h2443] at e
      refine mm_T.seg (f' := (6, [some (.ref 1), some (.int x1), some (.int x2), none], [(.int 1), (.int x1)])) (h' := (107, I, J, mm_rf 3 sp rr w nw)) 2 rfl ?_
      refine mm_T.br (c := 1 < x1) (a := ((9, [some (.ref 1), some (.int x1), some (.int x2), none], []), (107, I, J, mm_rf 3 sp rr w nw))) (b := ((11, [some (.ref 1), some (.int x1), some (.int x2), none], []), (107, I, J, mm_rf 3 sp rr w nw))) rfl (fun h2444 => ?_) (fun h2444 => ?_)
      · rw [if_pos h2444] at e
        refine mm_T.seg (f' := (10, [some (.ref 1), some (.int x1), some (.int x2), none], [(.int (-1))])) (h' := (107, I, J, mm_rf 3 sp rr w nw)) 1 rfl ?_
        cases e
        exact mm_T.ret rfl ⟨rfl, rfl⟩
      · rw [if_neg h2444] at e
        refine mm_T.seg (f' := (15, [some (.ref 1), some (.int x1), some (.int x2), none], [(.ref 54)])) (h' := (107, I, J, mm_rf 3 sp rr w nw)) 2 rfl ?_
        refine mm_T.seg (f' := (16, [some (.ref 1), some (.int x1), some (.int x2), none], [(.int x2), (.ref 54)])) (h' := (107, I, J, mm_rf 3 sp rr w nw)) 1 rfl ?_
        obtain ⟨o2445, eo2445, e⟩ := mm_bind e
        refine mm_T.call (t := 157) (as := [(.ref 54), (.int x2)]) (f' := (19, [some (.ref 1), some (.int x1), some (.int x2), none], [])) rfl (tX10_strokeToAsk (d + 0) n x2 I J 3 sp rr w nw (Or.inl rfl) o2445 eo2445) (fun v h hq => ?_)
        obtain ⟨rfl, rfl⟩ := hq
        refine mm_T.seg (f' := (21, [some (.ref 1), some (.int x1), some (.int x2), some (.int o2445.1)], [(.int x1)])) (h' := (107, o2445.2, J, mm_rf 3 sp rr w nw)) 2 rfl ?_
        refine mm_T.br (c := x1 = 0) (a := ((29, [some (.ref 1), some (.int x1), some (.int x2), some (.int o2445.1)], []), (107, o2445.2, J, mm_rf 3 sp rr w nw))) (b := ((24, [some (.ref 1), some (.int x1), some (.int x2), some (.int o2445.1)], []), (107, o2445.2, J, mm_rf 3 sp rr w nw))) rfl (fun h2446 => ?_) (fun h2446 => ?_)
        · rw [if_pos h2446] at e
          refine mm_T.seg (f' := (41, [some (.ref 1), some (.int x1), some (.int x2), some (.int o2445.1)], [(.int o2445.1)])) (h' := (107, o2445.2, J, mm_rf 3 sp rr w nw)) 2 rfl ?_
          cases e
          exact mm_T.ret rfl ⟨rfl, rfl⟩
        · rw [if_neg h2446] at e
          refine mm_T.seg (f' := (26, [some (.ref 1), some (.int x1), some (.int x2), some (.int o2445.1)], [(.int (-1)), (.int o2445.1)])) (h' := (107, o2445.2, J, mm_rf 3 sp rr w nw)) 2 rfl ?_
          refine mm_T.br (c := o2445.1 = (-1)) (a := ((29, [some (.ref 1), some (.int x1), some (.int x2), some (.int o2445.1)], []), (107, o2445.2, J, mm_rf 3 sp rr w nw))) (b := ((33, [some (.ref 1), some (.int x1), some (.int x2), some (.int o2445.1)], []), (107, o2445.2, J, mm_rf 3 sp rr w nw))) rfl (fun h2447 => ?_) (fun h2447 => ?_)
          · rw [if_pos h2447] at e
            refine mm_T.seg (f' := (41, [some (.ref 1), some (.int x1), some (.int x2), some (.int o2445.1)], [(.int o2445.1)])) (h' := (107, o2445.2, J, mm_rf 3 sp rr w nw)) 2 rfl ?_
            cases e
            exact mm_T.ret rfl ⟨rfl, rfl⟩
          · rw [if_neg h2447] at e
            refine mm_T.seg (f' := (37, [some (.ref 1), some (.int x1), some (.int x2), some (.int o2445.1)], [(.ref 54)])) (h' := (107, o2445.2, J, mm_rf 3 sp rr w nw)) 2 rfl ?_
            refine mm_T.seg (f' := (38, [some (.ref 1), some (.int x1), some (.int x2), some (.int o2445.1)], [(.int o2445.1), (.ref 54)])) (h' := (107, o2445.2, J, mm_rf 3 sp rr w nw)) 1 rfl ?_
            obtain ⟨o2448, eo2448, e⟩ := mm_bind e
            refine mm_T.call (t := 156) (as := [(.ref 54), (.int o2445.1)]) (f' := (41, [some (.ref 1), some (.int x1), some (.int x2), some (.int o2445.1)], [])) rfl (tX10_mostLeft (d + 17) n o2445.1 o2445.2 J 3 sp rr w nw o2448 eo2448) (fun v h hq => ?_)
            obtain ⟨rfl, rfl⟩ := hq
            cases e
            exact mm_T.ret rfl ⟨rfl, rfl⟩
  · unfold fX11_ask at e
    refine mm_T.seg (f' := (1, [some (.ref 1), some (.int x1), some (.int x2), none], [(.int x1)])) (h' := (107, I, J, mm_rf 19 sp rr w nw)) 1 rfl ?_
    refine mm_T.br (c := x1 < 0) (a := ((9, [some (.ref 1), some (.int x1), some (.int x2), none], []), (107, I, J, mm_rf 19 sp rr w nw))) (b := ((4, [some (.ref 1), some (.int x1), some (.int x2), none], []), (107, I, J, mm_rf 19 sp rr w nw))) rfl (fun h2443 => ?_) (fun h2443 => ?_)
    · rw [if_pos h2443] at e
      refine mm_T.seg (f' := (10, [some (.ref 1), some (.int x1), some (.int x2), none], [(.int (-1))])) (h' := (107, I, J, mm_rf 19 sp rr w nw)) 1 rfl ?_
      cases e
      exact mm_T.ret rfl ⟨rfl, rfl⟩
    · rw [if_neg h2443] at e
      refine mm_T.seg (f' := (6, [some (.ref 1), some (.int x1), some (.int x2), none], [(.int 1), (.int x1)])) (h' := (107, I, J, mm_rf 19 sp rr w nw)) 2 rfl ?_
      refine mm_T.br (c := 1 < x1) (a := ((9, [some (.ref 1), some (.int x1), some (.int x2), none], []), (107, I, J, mm_rf 19 sp rr w nw))) (b := ((11, [some (.ref 1), some (.int x1), some (.int x2), none], []), (107, I, J, mm_rf 19 sp rr w nw))) rfl (fun h2444 => ?_) (fun h2444 => ?_)
      · rw [if_pos h2444] at e
        refine mm_T.seg (f' := (10, [some (.ref 1), some (.int x1), some (.int x2), none], [(.int (-1))])) (h' := (107, I, J, mm_rf 19 sp rr w nw)) 1 rfl ?_
        cases e
        exact mm_T.ret rfl ⟨rfl, rfl⟩
      · rw [if_neg h2444] at e
        refine mm_T.seg (f' := (15, [some (.ref 1), some (.int x1), some (.int x2), none], [(.ref 54)])) (h' := (107, I, J, mm_rf 19 sp rr w nw)) 2 rfl ?_
        refine mm_T.seg (f' := (16, [some (.ref 1), some (.int x1), some (.int x2), none], [(.int x2), (.ref 54)])) (h' := (107, I, J, mm_rf 19 sp rr w nw)) 1 rfl ?_
        obtain ⟨o2445, eo2445, e⟩ := mm_bind e
        refine mm_T.call (t := 157) (as := [(.ref 54), (.int x2)]) (f' := (19, [some (.ref 1), some (.int x1), some (.int x2), none], [])) rfl (tX10_strokeToAsk (d + 0) n x2 I J 19 sp rr w nw (Or.inr rfl) o2445 eo2445) (fun v h hq => ?_)
        obtain ⟨rfl, rfl⟩ := hq
        refine mm_T.seg (f' := (21, [some (.ref 1), some (.int x1), some (.int x2), some (.int o2445.1)], [(.int x1)])) (h' := (107, o2445.2, J, mm_rf 19 sp rr w nw)) 2 rfl ?_
        refine mm_T.br (c := x1 = 0) (a := ((29, [some (.ref 1), some (.int x1), some (.int x2), some (.int o2445.1)], []), (107, o2445.2, J, mm_rf 19 sp rr w nw))) (b := ((24, [some (.ref 1), some (.int x1), some (.int x2), some (.int o2445.1)], []), (107, o2445.2, J, mm_rf 19 sp rr w nw))) rfl (fun h2446 => ?_) (fun h2446 => ?_)
        · rw [if_pos h2446] at e
          refine mm_T.seg (f' := (41, [some (.ref 1), some (.int x1), some (.int x2), some (.int o2445.1)], [(.int o2445.1)])) (h' := (107, o2445.2, J, mm_rf 19 sp rr w nw)) 2 rfl ?_
          cases e
          exact mm_T.ret rfl ⟨rfl, rfl⟩
        · rw [if_neg h2446] at e
          refine mm_T.seg (f' := (26, [some (.ref 1), some (.int x1), some (.int x2), some (.int o2445.1)], [(.int (-1)), (.int o2445.1)])) (h' := (107, o2445.2, J, mm_rf 19 sp rr w nw)) 2 rfl ?_
          refine mm_T.br (c := o2445.1 = (-1)) (a := ((29, [some (.ref 1), some (.int x1), some (.int x2), some (.int o2445.1)], []), (107, o2445.2, J, mm_rf 19 sp rr w nw))) (b := ((33, [some (.ref 1), some (.int x1), some (.int x2), some (.int o2445.1)], []), (107, o2445.2, J, mm_rf 19 sp rr w nw))) rfl (fun h2447 => ?_) (fun h2447 => ?_)
          · rw [if_pos h2447] at e
            refine mm_T.seg (f' := (41, [some (.ref 1), some (.int x1), some (.int x2), some (.int o2445.1)], [(.int o2445.1)])) (h' := (107, o2445.2, J, mm_rf 19 sp rr w nw)) 2 rfl ?_
            cases e
            exact mm_T.ret rfl ⟨rfl, rfl⟩
          · rw [if_neg h2447] at e
            refine mm_T.seg (f' := (37, [some (.ref 1), some (.int x1), some (.int x2), some (.int o2445.1)], [(.ref 54)])) (h' := (107, o2445.2, J, mm_rf 19 sp rr w nw)) 2 rfl ?_
            refine mm_T.seg (f' := (38, [some (.ref 1), some (.int x1), some (.int x2), some (.int o2445.1)], [(.int o2445.1), (.ref 54)])) (h' := (107, o2445.2, J, mm_rf 19 sp rr w nw)) 1 rfl ?_
            obtain ⟨o2448, eo2448, e⟩ := mm_bind e
            refine mm_T.call (t := 156) (as := [(.ref 54), (.int o2445.1)]) (f' := (41, [some (.ref 1), some (.int x1), some (.int x2), some (.int o2445.1)], [])) rfl (tX10_mostLeft (d + 17) n o2445.1 o2445.2 J 19 sp rr w nw o2448 eo2448) (fun v h hq => ?_)
            obtain ⟨rfl, rfl⟩ := hq
            cases e
            exact mm_T.ret rfl ⟨rfl, rfl⟩
set_option maxRecDepth 100000 in
set_option maxHeartbeats 4000000 in
theorem tX11_image (d n : Nat) (x1 : Int32) (I : Nat → Nat → Int32) (J : Nat → Nat → Int64) (rv sp rr w nw : Nat) (hrv : rv = 3 ∨ rv = 19) (out : Int32 × (Nat → Nat → Int32)) (e : fX11_image n x1 I rv = some out) : mm_T none (d + 4) 201 (mm_ent 201 [(.ref 1), (.int x1)]) (107, I, J, mm_rf rv sp rr w nw) (fun v h => v = some (.int out.1) ∧ h = (107, out.2, J, mm_rf rv sp rr w nw)) := by
  rcases hrv with rfl | rfl
  · unfold fX11_image at e
    refine mm_T.seg (f' := (4, [some (.ref 1), some (.int x1)], [(.ref 33)])) (h' := (107, I, J, mm_rf 3 sp rr w nw)) 2 rfl ?_
    refine mm_T.seg (f' := (5, [some (.ref 1), some (.int x1)], [(.int x1), (.ref 33)])) (h' := (107, I, J, mm_rf 3 sp rr w nw)) 1 rfl ?_
    obtain ⟨o2449, eo2449, e⟩ := mm_bind e
    refine mm_T.call (t := 20) (as := [(.ref 33), (.int x1)]) (f' := (8, [some (.ref 1), some (.int x1)], [])) rfl (tX2_fillBox (d + 1) n x1 I J 3 sp rr w nw o2449 eo2449) (fun v h hq => ?_)
    obtain ⟨rfl, rfl⟩ := hq
    refine mm_T.br (c := o2449.1 = 0) (a := ((21, [some (.ref 1), some (.int x1)], []), (107, o2449.2, J, mm_rf 3 sp rr w nw))) (b := ((11, [some (.ref 1), some (.int x1)], []), (107, o2449.2, J, mm_rf 3 sp rr w nw))) rfl (fun h2450 => ?_) (fun h2450 => ?_)
    · rw [if_pos h2450] at e
      refine mm_T.seg (f' := (22, [some (.ref 1), some (.int x1)], [(.int (-1))])) (h' := (107, o2449.2, J, mm_rf 3 sp rr w nw)) 1 rfl ?_
      cases e
      exact mm_T.ret rfl ⟨rfl, rfl⟩
    · rw [if_neg h2450] at e
      refine mm_T.seg (f' := (15, [some (.ref 1), some (.int x1)], [(.ref 18)])) (h' := (107, o2449.2, J, mm_rf 3 sp rr w nw)) 2 rfl ?_
      obtain ⟨o2451, eo2451, e⟩ := mm_bind e
      refine mm_T.call (t := 117) (as := [(.ref 18)]) (f' := (18, [some (.ref 1), some (.int x1)], [])) rfl (tX7_countOver (d + 0) n o2449.2 J 3 sp rr w nw (Or.inl rfl) o2451 eo2451) (fun v h hq => ?_)
      obtain ⟨rfl, rfl⟩ := hq
      refine mm_T.seg (f' := (22, [some (.ref 1), some (.int x1)], [(.int o2451)])) (h' := (107, o2449.2, J, mm_rf 3 sp rr w nw)) 1 rfl ?_
      cases e
      exact mm_T.ret rfl ⟨rfl, rfl⟩
  · unfold fX11_image at e
    refine mm_T.seg (f' := (4, [some (.ref 1), some (.int x1)], [(.ref 33)])) (h' := (107, I, J, mm_rf 19 sp rr w nw)) 2 rfl ?_
    refine mm_T.seg (f' := (5, [some (.ref 1), some (.int x1)], [(.int x1), (.ref 33)])) (h' := (107, I, J, mm_rf 19 sp rr w nw)) 1 rfl ?_
    obtain ⟨o2449, eo2449, e⟩ := mm_bind e
    refine mm_T.call (t := 20) (as := [(.ref 33), (.int x1)]) (f' := (8, [some (.ref 1), some (.int x1)], [])) rfl (tX2_fillBox (d + 1) n x1 I J 19 sp rr w nw o2449 eo2449) (fun v h hq => ?_)
    obtain ⟨rfl, rfl⟩ := hq
    refine mm_T.br (c := o2449.1 = 0) (a := ((21, [some (.ref 1), some (.int x1)], []), (107, o2449.2, J, mm_rf 19 sp rr w nw))) (b := ((11, [some (.ref 1), some (.int x1)], []), (107, o2449.2, J, mm_rf 19 sp rr w nw))) rfl (fun h2450 => ?_) (fun h2450 => ?_)
    · rw [if_pos h2450] at e
      refine mm_T.seg (f' := (22, [some (.ref 1), some (.int x1)], [(.int (-1))])) (h' := (107, o2449.2, J, mm_rf 19 sp rr w nw)) 1 rfl ?_
      cases e
      exact mm_T.ret rfl ⟨rfl, rfl⟩
    · rw [if_neg h2450] at e
      refine mm_T.seg (f' := (15, [some (.ref 1), some (.int x1)], [(.ref 18)])) (h' := (107, o2449.2, J, mm_rf 19 sp rr w nw)) 2 rfl ?_
      obtain ⟨o2451, eo2451, e⟩ := mm_bind e
      refine mm_T.call (t := 117) (as := [(.ref 18)]) (f' := (18, [some (.ref 1), some (.int x1)], [])) rfl (tX7_countOver (d + 0) n o2449.2 J 19 sp rr w nw (Or.inr rfl) o2451 eo2451) (fun v h hq => ?_)
      obtain ⟨rfl, rfl⟩ := hq
      refine mm_T.seg (f' := (22, [some (.ref 1), some (.int x1)], [(.int o2451)])) (h' := (107, o2449.2, J, mm_rf 19 sp rr w nw)) 1 rfl ?_
      cases e
      exact mm_T.ret rfl ⟨rfl, rfl⟩
set_option maxRecDepth 100000 in
set_option maxHeartbeats 4000000 in
theorem tX11_back (d n : Nat) (x1 : Int32) (I : Nat → Nat → Int32) (J : Nat → Nat → Int64) (rv sp rr w nw : Nat) (hrv : rv = 3 ∨ rv = 19) (out : Int32 × (Nat → Nat → Int32)) (e : fX11_back n x1 I rv = some out) : mm_T none (d + 4) 202 (mm_ent 202 [(.ref 1), (.int x1)]) (107, I, J, mm_rf rv sp rr w nw) (fun v h => v = some (.int out.1) ∧ h = (107, out.2, J, mm_rf rv sp rr w nw)) := by
  rcases hrv with rfl | rfl
  · unfold fX11_back at e
    refine mm_T.seg (f' := (4, [some (.ref 1), some (.int x1)], [(.ref 33)])) (h' := (107, I, J, mm_rf 3 sp rr w nw)) 2 rfl ?_
    refine mm_T.seg (f' := (5, [some (.ref 1), some (.int x1)], [(.int x1), (.ref 33)])) (h' := (107, I, J, mm_rf 3 sp rr w nw)) 1 rfl ?_
    obtain ⟨o2452, eo2452, e⟩ := mm_bind e
    refine mm_T.call (t := 21) (as := [(.ref 33), (.int x1)]) (f' := (8, [some (.ref 1), some (.int x1)], [])) rfl (tX2_openBox (d + 1) n x1 I J 3 sp rr w nw o2452 eo2452) (fun v h hq => ?_)
    obtain ⟨rfl, rfl⟩ := hq
    refine mm_T.br (c := o2452.1 = 0) (a := ((21, [some (.ref 1), some (.int x1)], []), (107, o2452.2, J, mm_rf 3 sp rr w nw))) (b := ((11, [some (.ref 1), some (.int x1)], []), (107, o2452.2, J, mm_rf 3 sp rr w nw))) rfl (fun h2453 => ?_) (fun h2453 => ?_)
    · rw [if_pos h2453] at e
      refine mm_T.seg (f' := (22, [some (.ref 1), some (.int x1)], [(.int (-1))])) (h' := (107, o2452.2, J, mm_rf 3 sp rr w nw)) 1 rfl ?_
      cases e
      exact mm_T.ret rfl ⟨rfl, rfl⟩
    · rw [if_neg h2453] at e
      refine mm_T.seg (f' := (15, [some (.ref 1), some (.int x1)], [(.ref 18)])) (h' := (107, o2452.2, J, mm_rf 3 sp rr w nw)) 2 rfl ?_
      obtain ⟨o2454, eo2454, e⟩ := mm_bind e
      refine mm_T.call (t := 117) (as := [(.ref 18)]) (f' := (18, [some (.ref 1), some (.int x1)], [])) rfl (tX7_countOver (d + 0) n o2452.2 J 3 sp rr w nw (Or.inl rfl) o2454 eo2454) (fun v h hq => ?_)
      obtain ⟨rfl, rfl⟩ := hq
      refine mm_T.seg (f' := (22, [some (.ref 1), some (.int x1)], [(.int o2454)])) (h' := (107, o2452.2, J, mm_rf 3 sp rr w nw)) 1 rfl ?_
      cases e
      exact mm_T.ret rfl ⟨rfl, rfl⟩
  · unfold fX11_back at e
    refine mm_T.seg (f' := (4, [some (.ref 1), some (.int x1)], [(.ref 33)])) (h' := (107, I, J, mm_rf 19 sp rr w nw)) 2 rfl ?_
    refine mm_T.seg (f' := (5, [some (.ref 1), some (.int x1)], [(.int x1), (.ref 33)])) (h' := (107, I, J, mm_rf 19 sp rr w nw)) 1 rfl ?_
    obtain ⟨o2452, eo2452, e⟩ := mm_bind e
    refine mm_T.call (t := 21) (as := [(.ref 33), (.int x1)]) (f' := (8, [some (.ref 1), some (.int x1)], [])) rfl (tX2_openBox (d + 1) n x1 I J 19 sp rr w nw o2452 eo2452) (fun v h hq => ?_)
    obtain ⟨rfl, rfl⟩ := hq
    refine mm_T.br (c := o2452.1 = 0) (a := ((21, [some (.ref 1), some (.int x1)], []), (107, o2452.2, J, mm_rf 19 sp rr w nw))) (b := ((11, [some (.ref 1), some (.int x1)], []), (107, o2452.2, J, mm_rf 19 sp rr w nw))) rfl (fun h2453 => ?_) (fun h2453 => ?_)
    · rw [if_pos h2453] at e
      refine mm_T.seg (f' := (22, [some (.ref 1), some (.int x1)], [(.int (-1))])) (h' := (107, o2452.2, J, mm_rf 19 sp rr w nw)) 1 rfl ?_
      cases e
      exact mm_T.ret rfl ⟨rfl, rfl⟩
    · rw [if_neg h2453] at e
      refine mm_T.seg (f' := (15, [some (.ref 1), some (.int x1)], [(.ref 18)])) (h' := (107, o2452.2, J, mm_rf 19 sp rr w nw)) 2 rfl ?_
      obtain ⟨o2454, eo2454, e⟩ := mm_bind e
      refine mm_T.call (t := 117) (as := [(.ref 18)]) (f' := (18, [some (.ref 1), some (.int x1)], [])) rfl (tX7_countOver (d + 0) n o2452.2 J 19 sp rr w nw (Or.inr rfl) o2454 eo2454) (fun v h hq => ?_)
      obtain ⟨rfl, rfl⟩ := hq
      refine mm_T.seg (f' := (22, [some (.ref 1), some (.int x1)], [(.int o2454)])) (h' := (107, o2452.2, J, mm_rf 19 sp rr w nw)) 1 rfl ?_
      cases e
      exact mm_T.ret rfl ⟨rfl, rfl⟩
set_option maxRecDepth 100000 in
set_option maxHeartbeats 4000000 in
theorem tX11_about (d : Nat) (x1 : Int32) (I : Nat → Nat → Int32) (J : Nat → Nat → Int64) (rv sp rr w nw : Nat) (hrv : rv = 3 ∨ rv = 19) (out : Int32) (e : fX11_about x1 I rv = out) : mm_T none (d + 2) 203 (mm_ent 203 [(.ref 1), (.int x1)]) (107, I, J, mm_rf rv sp rr w nw) (fun v h => v = some (.int out) ∧ h = (107, I, J, mm_rf rv sp rr w nw)) := by
  rcases hrv with rfl | rfl
  · unfold fX11_about at e
    refine mm_T.seg (f' := (1, [some (.ref 1), some (.int x1)], [(.int x1)])) (h' := (107, I, J, mm_rf 3 sp rr w nw)) 1 rfl ?_
    by_cases h2455 : x1 = 0
    · rw [if_pos h2455] at e
      refine mm_T.step (f' := (68, [some (.ref 1), some (.int x1)], [])) (h' := (107, I, J, mm_rf 3 sp rr w nw)) (by first | (rw [h2455]; rfl) | exact absurd h2455 (by decide)) ?_
      refine mm_T.seg (f' := (72, [some (.ref 1), some (.int x1)], [(.ref 18)])) (h' := (107, I, J, mm_rf 3 sp rr w nw)) 2 rfl ?_
      refine mm_T.seg (f' := (78, [some (.ref 1), some (.int x1)], [(.int (I 3 4))])) (h' := (107, I, J, mm_rf 3 sp rr w nw)) 2 rfl ?_
      cases e
      exact mm_T.ret rfl ⟨rfl, rfl⟩
    · rw [if_neg h2455] at e
      by_cases h2456 : x1 = 1
      · rw [if_pos h2456] at e
        refine mm_T.step (f' := (79, [some (.ref 1), some (.int x1)], [])) (h' := (107, I, J, mm_rf 3 sp rr w nw)) (by first | (rw [h2456]; rfl) | exact absurd h2456 (by decide)) ?_
        refine mm_T.seg (f' := (83, [some (.ref 1), some (.int x1)], [(.ref 18)])) (h' := (107, I, J, mm_rf 3 sp rr w nw)) 2 rfl ?_
        refine mm_T.seg (f' := (89, [some (.ref 1), some (.int x1)], [(.int (I 3 5))])) (h' := (107, I, J, mm_rf 3 sp rr w nw)) 2 rfl ?_
        cases e
        exact mm_T.ret rfl ⟨rfl, rfl⟩
      · rw [if_neg h2456] at e
        by_cases h2457 : x1 = 2
        · rw [if_pos h2457] at e
          refine mm_T.step (f' := (90, [some (.ref 1), some (.int x1)], [])) (h' := (107, I, J, mm_rf 3 sp rr w nw)) (by first | (rw [h2457]; rfl) | exact absurd h2457 (by decide)) ?_
          refine mm_T.seg (f' := (94, [some (.ref 1), some (.int x1)], [(.ref 18)])) (h' := (107, I, J, mm_rf 3 sp rr w nw)) 2 rfl ?_
          refine mm_T.seg (f' := (100, [some (.ref 1), some (.int x1)], [(.int (I 3 0))])) (h' := (107, I, J, mm_rf 3 sp rr w nw)) 2 rfl ?_
          cases e
          exact mm_T.ret rfl ⟨rfl, rfl⟩
        · rw [if_neg h2457] at e
          by_cases h2458 : x1 = 3
          · rw [if_pos h2458] at e
            refine mm_T.step (f' := (101, [some (.ref 1), some (.int x1)], [])) (h' := (107, I, J, mm_rf 3 sp rr w nw)) (by first | (rw [h2458]; rfl) | exact absurd h2458 (by decide)) ?_
            refine mm_T.seg (f' := (105, [some (.ref 1), some (.int x1)], [(.ref 18)])) (h' := (107, I, J, mm_rf 3 sp rr w nw)) 2 rfl ?_
            refine mm_T.seg (f' := (111, [some (.ref 1), some (.int x1)], [(.int (I 3 1))])) (h' := (107, I, J, mm_rf 3 sp rr w nw)) 2 rfl ?_
            cases e
            exact mm_T.ret rfl ⟨rfl, rfl⟩
          · rw [if_neg h2458] at e
            by_cases h2459 : x1 = 4
            · rw [if_pos h2459] at e
              refine mm_T.step (f' := (112, [some (.ref 1), some (.int x1)], [])) (h' := (107, I, J, mm_rf 3 sp rr w nw)) (by first | (rw [h2459]; rfl) | exact absurd h2459 (by decide)) ?_
              refine mm_T.seg (f' := (116, [some (.ref 1), some (.int x1)], [(.ref 18)])) (h' := (107, I, J, mm_rf 3 sp rr w nw)) 2 rfl ?_
              refine mm_T.seg (f' := (122, [some (.ref 1), some (.int x1)], [(.int (I 3 6))])) (h' := (107, I, J, mm_rf 3 sp rr w nw)) 2 rfl ?_
              cases e
              exact mm_T.ret rfl ⟨rfl, rfl⟩
            · rw [if_neg h2459] at e
              by_cases h2460 : x1 = 5
              · rw [if_pos h2460] at e
                refine mm_T.step (f' := (123, [some (.ref 1), some (.int x1)], [])) (h' := (107, I, J, mm_rf 3 sp rr w nw)) (by first | (rw [h2460]; rfl) | exact absurd h2460 (by decide)) ?_
                refine mm_T.seg (f' := (127, [some (.ref 1), some (.int x1)], [(.ref 18)])) (h' := (107, I, J, mm_rf 3 sp rr w nw)) 2 rfl ?_
                obtain ⟨g496, hg496⟩ : ∃ z, fX7_seed I = z := ⟨_, rfl⟩
                try rw [hg496] at e
                refine mm_T.call (t := 114) (as := [(.ref 18)]) (f' := (130, [some (.ref 1), some (.int x1)], [])) rfl (tX7_seed (d + 0) I J 3 sp rr w nw g496 hg496) (fun v h hq => ?_)
                obtain ⟨rfl, rfl⟩ := hq
                cases e
                exact mm_T.ret rfl ⟨rfl, rfl⟩
              · rw [if_neg h2460] at e
                by_cases h2461 : x1 = 6
                · rw [if_pos h2461] at e
                  refine mm_T.step (f' := (131, [some (.ref 1), some (.int x1)], [])) (h' := (107, I, J, mm_rf 3 sp rr w nw)) (by first | (rw [h2461]; rfl) | exact absurd h2461 (by decide)) ?_
                  refine mm_T.seg (f' := (135, [some (.ref 1), some (.int x1)], [(.ref 33)])) (h' := (107, I, J, mm_rf 3 sp rr w nw)) 2 rfl ?_
                  refine mm_T.seg (f' := (138, [some (.ref 1), some (.int x1)], [(.int (I 33 4))])) (h' := (107, I, J, mm_rf 3 sp rr w nw)) 1 rfl ?_
                  cases e
                  exact mm_T.ret rfl ⟨rfl, rfl⟩
                · rw [if_neg h2461] at e
                  by_cases h2462 : x1 = 7
                  · rw [if_pos h2462] at e
                    refine mm_T.step (f' := (139, [some (.ref 1), some (.int x1)], [])) (h' := (107, I, J, mm_rf 3 sp rr w nw)) (by first | (rw [h2462]; rfl) | exact absurd h2462 (by decide)) ?_
                    refine mm_T.seg (f' := (143, [some (.ref 1), some (.int x1)], [(.ref 33)])) (h' := (107, I, J, mm_rf 3 sp rr w nw)) 2 rfl ?_
                    refine mm_T.seg (f' := (146, [some (.ref 1), some (.int x1)], [(.int (I 33 5))])) (h' := (107, I, J, mm_rf 3 sp rr w nw)) 1 rfl ?_
                    cases e
                    exact mm_T.ret rfl ⟨rfl, rfl⟩
                  · rw [if_neg h2462] at e
                    by_cases h2463 : x1 = 8
                    · rw [if_pos h2463] at e
                      refine mm_T.step (f' := (147, [some (.ref 1), some (.int x1)], [])) (h' := (107, I, J, mm_rf 3 sp rr w nw)) (by first | (rw [h2463]; rfl) | exact absurd h2463 (by decide)) ?_
                      refine mm_T.seg (f' := (151, [some (.ref 1), some (.int x1)], [(.ref 54)])) (h' := (107, I, J, mm_rf 3 sp rr w nw)) 2 rfl ?_
                      refine mm_T.seg (f' := (154, [some (.ref 1), some (.int x1)], [(.int (I 54 9))])) (h' := (107, I, J, mm_rf 3 sp rr w nw)) 1 rfl ?_
                      cases e
                      exact mm_T.ret rfl ⟨rfl, rfl⟩
                    · rw [if_neg h2463] at e
                      by_cases h2464 : x1 = 9
                      · rw [if_pos h2464] at e
                        refine mm_T.step (f' := (155, [some (.ref 1), some (.int x1)], [])) (h' := (107, I, J, mm_rf 3 sp rr w nw)) (by first | (rw [h2464]; rfl) | exact absurd h2464 (by decide)) ?_
                        refine mm_T.seg (f' := (159, [some (.ref 1), some (.int x1)], [(.ref 54)])) (h' := (107, I, J, mm_rf 3 sp rr w nw)) 2 rfl ?_
                        refine mm_T.seg (f' := (162, [some (.ref 1), some (.int x1)], [(.int (I 54 10))])) (h' := (107, I, J, mm_rf 3 sp rr w nw)) 1 rfl ?_
                        cases e
                        exact mm_T.ret rfl ⟨rfl, rfl⟩
                      · rw [if_neg h2464] at e
                        by_cases h2465 : x1 = 10
                        · rw [if_pos h2465] at e
                          refine mm_T.step (f' := (163, [some (.ref 1), some (.int x1)], [])) (h' := (107, I, J, mm_rf 3 sp rr w nw)) (by first | (rw [h2465]; rfl) | exact absurd h2465 (by decide)) ?_
                          refine mm_T.seg (f' := (167, [some (.ref 1), some (.int x1)], [(.int (I 1 1))])) (h' := (107, I, J, mm_rf 3 sp rr w nw)) 2 rfl ?_
                          cases e
                          exact mm_T.ret rfl ⟨rfl, rfl⟩
                        · rw [if_neg h2465] at e
                          by_cases h2466 : x1 = 11
                          · rw [if_pos h2466] at e
                            refine mm_T.step (f' := (168, [some (.ref 1), some (.int x1)], [])) (h' := (107, I, J, mm_rf 3 sp rr w nw)) (by first | (rw [h2466]; rfl) | exact absurd h2466 (by decide)) ?_
                            refine mm_T.seg (f' := (172, [some (.ref 1), some (.int x1)], [(.ref 18)])) (h' := (107, I, J, mm_rf 3 sp rr w nw)) 2 rfl ?_
                            refine mm_T.seg (f' := (178, [some (.ref 1), some (.int x1)], [(.ref (3 + 1))])) (h' := (107, I, J, mm_rf 3 sp rr w nw)) 2 rfl ?_
                            refine mm_T.seg (f' := (181, [some (.ref 1), some (.int x1)], [(.int (I (3 + 1) 4))])) (h' := (107, I, J, mm_rf 3 sp rr w nw)) 1 rfl ?_
                            cases e
                            exact mm_T.ret rfl ⟨rfl, rfl⟩
                          · rw [if_neg h2466] at e
                            by_cases h2467 : x1 = 12
                            · rw [if_pos h2467] at e
                              refine mm_T.step (f' := (182, [some (.ref 1), some (.int x1)], [])) (h' := (107, I, J, mm_rf 3 sp rr w nw)) (by first | (rw [h2467]; rfl) | exact absurd h2467 (by decide)) ?_
                              refine mm_T.seg (f' := (186, [some (.ref 1), some (.int x1)], [(.ref 35)])) (h' := (107, I, J, mm_rf 3 sp rr w nw)) 2 rfl ?_
                              refine mm_T.seg (f' := (189, [some (.ref 1), some (.int x1)], [(.int (I 35 1))])) (h' := (107, I, J, mm_rf 3 sp rr w nw)) 1 rfl ?_
                              cases e
                              exact mm_T.ret rfl ⟨rfl, rfl⟩
                            · rw [if_neg h2467] at e
                              refine mm_T.tabs (lo := 0) (hi := 12) (y := ((190, [some (.ref 1), some (.int x1)], []), (107, I, J, mm_rf 3 sp rr w nw))) rfl (mm_swo (0) (12) x1 [0, 1, 2, 3, 4, 5, 6, 7, 8, 9, 10, 11, 12] (by decide) (by intro z hz; simp only [List.mem_cons, List.not_mem_nil, or_false] at hz; rcases hz with rfl | rfl | rfl | rfl | rfl | rfl | rfl | rfl | rfl | rfl | rfl | rfl | rfl <;> first | assumption | decide)) ?_
                              refine mm_T.seg (f' := (191, [some (.ref 1), some (.int x1)], [(.int (-1))])) (h' := (107, I, J, mm_rf 3 sp rr w nw)) 1 rfl ?_
                              cases e
                              exact mm_T.ret rfl ⟨rfl, rfl⟩
  · unfold fX11_about at e
    refine mm_T.seg (f' := (1, [some (.ref 1), some (.int x1)], [(.int x1)])) (h' := (107, I, J, mm_rf 19 sp rr w nw)) 1 rfl ?_
    by_cases h2455 : x1 = 0
    · rw [if_pos h2455] at e
      refine mm_T.step (f' := (68, [some (.ref 1), some (.int x1)], [])) (h' := (107, I, J, mm_rf 19 sp rr w nw)) (by first | (rw [h2455]; rfl) | exact absurd h2455 (by decide)) ?_
      refine mm_T.seg (f' := (72, [some (.ref 1), some (.int x1)], [(.ref 18)])) (h' := (107, I, J, mm_rf 19 sp rr w nw)) 2 rfl ?_
      refine mm_T.seg (f' := (78, [some (.ref 1), some (.int x1)], [(.int (I 19 4))])) (h' := (107, I, J, mm_rf 19 sp rr w nw)) 2 rfl ?_
      cases e
      exact mm_T.ret rfl ⟨rfl, rfl⟩
    · rw [if_neg h2455] at e
      by_cases h2456 : x1 = 1
      · rw [if_pos h2456] at e
        refine mm_T.step (f' := (79, [some (.ref 1), some (.int x1)], [])) (h' := (107, I, J, mm_rf 19 sp rr w nw)) (by first | (rw [h2456]; rfl) | exact absurd h2456 (by decide)) ?_
        refine mm_T.seg (f' := (83, [some (.ref 1), some (.int x1)], [(.ref 18)])) (h' := (107, I, J, mm_rf 19 sp rr w nw)) 2 rfl ?_
        refine mm_T.seg (f' := (89, [some (.ref 1), some (.int x1)], [(.int (I 19 5))])) (h' := (107, I, J, mm_rf 19 sp rr w nw)) 2 rfl ?_
        cases e
        exact mm_T.ret rfl ⟨rfl, rfl⟩
      · rw [if_neg h2456] at e
        by_cases h2457 : x1 = 2
        · rw [if_pos h2457] at e
          refine mm_T.step (f' := (90, [some (.ref 1), some (.int x1)], [])) (h' := (107, I, J, mm_rf 19 sp rr w nw)) (by first | (rw [h2457]; rfl) | exact absurd h2457 (by decide)) ?_
          refine mm_T.seg (f' := (94, [some (.ref 1), some (.int x1)], [(.ref 18)])) (h' := (107, I, J, mm_rf 19 sp rr w nw)) 2 rfl ?_
          refine mm_T.seg (f' := (100, [some (.ref 1), some (.int x1)], [(.int (I 19 0))])) (h' := (107, I, J, mm_rf 19 sp rr w nw)) 2 rfl ?_
          cases e
          exact mm_T.ret rfl ⟨rfl, rfl⟩
        · rw [if_neg h2457] at e
          by_cases h2458 : x1 = 3
          · rw [if_pos h2458] at e
            refine mm_T.step (f' := (101, [some (.ref 1), some (.int x1)], [])) (h' := (107, I, J, mm_rf 19 sp rr w nw)) (by first | (rw [h2458]; rfl) | exact absurd h2458 (by decide)) ?_
            refine mm_T.seg (f' := (105, [some (.ref 1), some (.int x1)], [(.ref 18)])) (h' := (107, I, J, mm_rf 19 sp rr w nw)) 2 rfl ?_
            refine mm_T.seg (f' := (111, [some (.ref 1), some (.int x1)], [(.int (I 19 1))])) (h' := (107, I, J, mm_rf 19 sp rr w nw)) 2 rfl ?_
            cases e
            exact mm_T.ret rfl ⟨rfl, rfl⟩
          · rw [if_neg h2458] at e
            by_cases h2459 : x1 = 4
            · rw [if_pos h2459] at e
              refine mm_T.step (f' := (112, [some (.ref 1), some (.int x1)], [])) (h' := (107, I, J, mm_rf 19 sp rr w nw)) (by first | (rw [h2459]; rfl) | exact absurd h2459 (by decide)) ?_
              refine mm_T.seg (f' := (116, [some (.ref 1), some (.int x1)], [(.ref 18)])) (h' := (107, I, J, mm_rf 19 sp rr w nw)) 2 rfl ?_
              refine mm_T.seg (f' := (122, [some (.ref 1), some (.int x1)], [(.int (I 19 6))])) (h' := (107, I, J, mm_rf 19 sp rr w nw)) 2 rfl ?_
              cases e
              exact mm_T.ret rfl ⟨rfl, rfl⟩
            · rw [if_neg h2459] at e
              by_cases h2460 : x1 = 5
              · rw [if_pos h2460] at e
                refine mm_T.step (f' := (123, [some (.ref 1), some (.int x1)], [])) (h' := (107, I, J, mm_rf 19 sp rr w nw)) (by first | (rw [h2460]; rfl) | exact absurd h2460 (by decide)) ?_
                refine mm_T.seg (f' := (127, [some (.ref 1), some (.int x1)], [(.ref 18)])) (h' := (107, I, J, mm_rf 19 sp rr w nw)) 2 rfl ?_
                obtain ⟨g496, hg496⟩ : ∃ z, fX7_seed I = z := ⟨_, rfl⟩
                try rw [hg496] at e
                refine mm_T.call (t := 114) (as := [(.ref 18)]) (f' := (130, [some (.ref 1), some (.int x1)], [])) rfl (tX7_seed (d + 0) I J 19 sp rr w nw g496 hg496) (fun v h hq => ?_)
                obtain ⟨rfl, rfl⟩ := hq
                cases e
                exact mm_T.ret rfl ⟨rfl, rfl⟩
              · rw [if_neg h2460] at e
                by_cases h2461 : x1 = 6
                · rw [if_pos h2461] at e
                  refine mm_T.step (f' := (131, [some (.ref 1), some (.int x1)], [])) (h' := (107, I, J, mm_rf 19 sp rr w nw)) (by first | (rw [h2461]; rfl) | exact absurd h2461 (by decide)) ?_
                  refine mm_T.seg (f' := (135, [some (.ref 1), some (.int x1)], [(.ref 33)])) (h' := (107, I, J, mm_rf 19 sp rr w nw)) 2 rfl ?_
                  refine mm_T.seg (f' := (138, [some (.ref 1), some (.int x1)], [(.int (I 33 4))])) (h' := (107, I, J, mm_rf 19 sp rr w nw)) 1 rfl ?_
                  cases e
                  exact mm_T.ret rfl ⟨rfl, rfl⟩
                · rw [if_neg h2461] at e
                  by_cases h2462 : x1 = 7
                  · rw [if_pos h2462] at e
                    refine mm_T.step (f' := (139, [some (.ref 1), some (.int x1)], [])) (h' := (107, I, J, mm_rf 19 sp rr w nw)) (by first | (rw [h2462]; rfl) | exact absurd h2462 (by decide)) ?_
                    refine mm_T.seg (f' := (143, [some (.ref 1), some (.int x1)], [(.ref 33)])) (h' := (107, I, J, mm_rf 19 sp rr w nw)) 2 rfl ?_
                    refine mm_T.seg (f' := (146, [some (.ref 1), some (.int x1)], [(.int (I 33 5))])) (h' := (107, I, J, mm_rf 19 sp rr w nw)) 1 rfl ?_
                    cases e
                    exact mm_T.ret rfl ⟨rfl, rfl⟩
                  · rw [if_neg h2462] at e
                    by_cases h2463 : x1 = 8
                    · rw [if_pos h2463] at e
                      refine mm_T.step (f' := (147, [some (.ref 1), some (.int x1)], [])) (h' := (107, I, J, mm_rf 19 sp rr w nw)) (by first | (rw [h2463]; rfl) | exact absurd h2463 (by decide)) ?_
                      refine mm_T.seg (f' := (151, [some (.ref 1), some (.int x1)], [(.ref 54)])) (h' := (107, I, J, mm_rf 19 sp rr w nw)) 2 rfl ?_
                      refine mm_T.seg (f' := (154, [some (.ref 1), some (.int x1)], [(.int (I 54 9))])) (h' := (107, I, J, mm_rf 19 sp rr w nw)) 1 rfl ?_
                      cases e
                      exact mm_T.ret rfl ⟨rfl, rfl⟩
                    · rw [if_neg h2463] at e
                      by_cases h2464 : x1 = 9
                      · rw [if_pos h2464] at e
                        refine mm_T.step (f' := (155, [some (.ref 1), some (.int x1)], [])) (h' := (107, I, J, mm_rf 19 sp rr w nw)) (by first | (rw [h2464]; rfl) | exact absurd h2464 (by decide)) ?_
                        refine mm_T.seg (f' := (159, [some (.ref 1), some (.int x1)], [(.ref 54)])) (h' := (107, I, J, mm_rf 19 sp rr w nw)) 2 rfl ?_
                        refine mm_T.seg (f' := (162, [some (.ref 1), some (.int x1)], [(.int (I 54 10))])) (h' := (107, I, J, mm_rf 19 sp rr w nw)) 1 rfl ?_
                        cases e
                        exact mm_T.ret rfl ⟨rfl, rfl⟩
                      · rw [if_neg h2464] at e
                        by_cases h2465 : x1 = 10
                        · rw [if_pos h2465] at e
                          refine mm_T.step (f' := (163, [some (.ref 1), some (.int x1)], [])) (h' := (107, I, J, mm_rf 19 sp rr w nw)) (by first | (rw [h2465]; rfl) | exact absurd h2465 (by decide)) ?_
                          refine mm_T.seg (f' := (167, [some (.ref 1), some (.int x1)], [(.int (I 1 1))])) (h' := (107, I, J, mm_rf 19 sp rr w nw)) 2 rfl ?_
                          cases e
                          exact mm_T.ret rfl ⟨rfl, rfl⟩
                        · rw [if_neg h2465] at e
                          by_cases h2466 : x1 = 11
                          · rw [if_pos h2466] at e
                            refine mm_T.step (f' := (168, [some (.ref 1), some (.int x1)], [])) (h' := (107, I, J, mm_rf 19 sp rr w nw)) (by first | (rw [h2466]; rfl) | exact absurd h2466 (by decide)) ?_
                            refine mm_T.seg (f' := (172, [some (.ref 1), some (.int x1)], [(.ref 18)])) (h' := (107, I, J, mm_rf 19 sp rr w nw)) 2 rfl ?_
                            refine mm_T.seg (f' := (178, [some (.ref 1), some (.int x1)], [(.ref (19 + 1))])) (h' := (107, I, J, mm_rf 19 sp rr w nw)) 2 rfl ?_
                            refine mm_T.seg (f' := (181, [some (.ref 1), some (.int x1)], [(.int (I (19 + 1) 4))])) (h' := (107, I, J, mm_rf 19 sp rr w nw)) 1 rfl ?_
                            cases e
                            exact mm_T.ret rfl ⟨rfl, rfl⟩
                          · rw [if_neg h2466] at e
                            by_cases h2467 : x1 = 12
                            · rw [if_pos h2467] at e
                              refine mm_T.step (f' := (182, [some (.ref 1), some (.int x1)], [])) (h' := (107, I, J, mm_rf 19 sp rr w nw)) (by first | (rw [h2467]; rfl) | exact absurd h2467 (by decide)) ?_
                              refine mm_T.seg (f' := (186, [some (.ref 1), some (.int x1)], [(.ref 35)])) (h' := (107, I, J, mm_rf 19 sp rr w nw)) 2 rfl ?_
                              refine mm_T.seg (f' := (189, [some (.ref 1), some (.int x1)], [(.int (I 35 1))])) (h' := (107, I, J, mm_rf 19 sp rr w nw)) 1 rfl ?_
                              cases e
                              exact mm_T.ret rfl ⟨rfl, rfl⟩
                            · rw [if_neg h2467] at e
                              refine mm_T.tabs (lo := 0) (hi := 12) (y := ((190, [some (.ref 1), some (.int x1)], []), (107, I, J, mm_rf 19 sp rr w nw))) rfl (mm_swo (0) (12) x1 [0, 1, 2, 3, 4, 5, 6, 7, 8, 9, 10, 11, 12] (by decide) (by intro z hz; simp only [List.mem_cons, List.not_mem_nil, or_false] at hz; rcases hz with rfl | rfl | rfl | rfl | rfl | rfl | rfl | rfl | rfl | rfl | rfl | rfl | rfl <;> first | assumption | decide)) ?_
                              refine mm_T.seg (f' := (191, [some (.ref 1), some (.int x1)], [(.int (-1))])) (h' := (107, I, J, mm_rf 19 sp rr w nw)) 1 rfl ?_
                              cases e
                              exact mm_T.ret rfl ⟨rfl, rfl⟩
