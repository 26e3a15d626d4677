/-! THE START: what is held behind the two constructors. -/
theorem ct3_ex : ∃ h1 h2, mm_ev none 30000 900 158 (mm_ent 158 [.ref 1]) (mm_zh mm_h0) = some (none, h1) ∧ h1.1 = 62 ∧ mm_ev none 30000 900 206 (mm_ent 206 [.ref 62]) (mm_zh h1) = some (none, h2) ∧ ok0 h2 = true ∧ mm_ctr h2 = true := by
  have a := mm_ct_ok
  have b := mm_ct_okr
  unfold mm_ct3 at a b
  generalize hx : mm_ev none 30000 900 158 (mm_ent 158 [.ref 1]) (mm_zh mm_h0) = x at a b
  match x, hx, a, b with
  | none, _, a, _ => cases a
  | some (some _, _), _, a, _ => cases a
  | some (none, h1), hx, a, b =>
    dsimp only at a b
    cases hc : Nat.beq h1.1 62 with
    | false => rw [hc] at a; cases a
    | true =>
      rw [hc] at a b
      rw [cond_true] at a b
      generalize hy : mm_ev none 30000 900 206 (mm_ent 206 [.ref 62]) (mm_zh h1) = y at a b
      match y, hy, a, b with
      | none, _, a, _ => cases a
      | some (some _, _), _, a, _ => cases a
      | some (none, h2), hy, a, b => exact ⟨h1, h2, rfl, Nat.eq_of_beq_eq_true hc, hy, a, b⟩
theorem rf_out {a k : Nat} (h : 107 ≤ a ∨ 100 ≤ k) : mm_rf 19 3 3 39 40 a k = 0 := by
  unfold mm_rf
  rw [if_neg (by omega), if_neg (by omega), if_neg (by omega), if_neg (by omega), if_neg (by omega)]
  unfold mm_rf0
  by_cases hk : k < 100
  · have h1 := mm_lv_get mm_rfT (a * 100 + k)
    have h2 : (mm_lv mm_rfT).all (fun x => Nat.blt x.1 10700) = true := by decide +kernel
    have h3 : Nat.blt (mm_rfT.get (a * 100 + k)).1 10700 = true := List.all_eq_true.mp h2 _ h1
    have h4 : (mm_rfT.get (a * 100 + k)).1 < 10700 := Nat.le_of_ble_eq_true h3
    have h5 : Nat.beq (mm_rfT.get (a * 100 + k)).1 (a * 100 + k) = false := by
      cases hb : Nat.beq (mm_rfT.get (a * 100 + k)).1 (a * 100 + k) with
      | false => rfl
      | true => have := Nat.eq_of_beq_eq_true hb; omega
    rw [h5, Bool.and_false]; rfl
  · have h5 : Nat.blt k 100 = false := by
      cases hb : Nat.blt k 100 with
      | false => rfl
      | true => have : k < 100 := Nat.le_of_ble_eq_true hb; omega
    rw [h5, Bool.false_and]; rfl
theorem rf_tab : (List.range 107).all (fun a => (List.range 100).all (fun k => Nat.blt k (mm_nf a) || Nat.beq (mm_rf 19 3 3 39 40 a k) 0)) = true := by decide +kernel
theorem rf_nf {a k : Nat} (h : 107 ≤ a ∨ mm_nf a ≤ k) : mm_rf 19 3 3 39 40 a k = 0 := by
  by_cases h1 : 107 ≤ a ∨ 100 ≤ k
  · exact rf_out h1
  · have h2 := List.all_eq_true.mp rf_tab a (List.mem_range.mpr (by omega))
    have h3 := List.all_eq_true.mp h2 k (List.mem_range.mpr (by omega))
    rcases Bool.or_eq_true_iff.mp h3 with h4 | h4
    · have h5 : k < mm_nf a := Nat.le_of_ble_eq_true h4
      omega
    · exact Nat.eq_of_beq_eq_true h4
theorem ri_zh {h : mm_H} (hr : mm_ri h) (h1 : h.1 < 107) : mm_ri (mm_zh h) := by
  refine ⟨h1, fun a k hak => ?_⟩
  show mm_row h.2.2.2 h.1 (fun _ => 0) a k = 0
  simp only [mm_row]
  split
  · rfl
  · exact hr.2 a k hak
theorem okL_at {h : mm_H} (hh : okL.all (fun e => decide (h.2.1 e.1 e.2.1 = iN e.2.2)) = true) {a k : Nat} {v : Int} (hm : (a, k, v) ∈ okL) : h.2.1 a k = iN v := of_decide_eq_true (List.all_eq_true.mp hh (a, k, v) hm)
theorem start : ∃ h1 h2, mm_ev none 30000 900 158 (mm_ent 158 [.ref 1]) (mm_zh mm_h0) = some (none, h1) ∧ h1.1 = 62 ∧ mm_ev none 30000 900 206 (mm_ent 206 [.ref 62]) (mm_zh h1) = some (none, h2) ∧ INV 0 h2 := by
  obtain ⟨h1, h2, e1, e2, e3, a, b⟩ := ct3_ex
  refine ⟨h1, h2, e1, e2, e3, ?_⟩
  have r0 : mm_ri mm_h0 := ⟨by decide, fun _ _ _ => rfl⟩
  unfold ok0 at a
  simp only [Bool.and_eq_true] at a
  obtain ⟨a1, a2, a3, a4, a5⟩ := a
  have a1 : h2.1 = 107 := Nat.eq_of_beq_eq_true a1
  have r1 := mm_ev_ri 30000 none 900 158 _ _ _ _ (ri_zh r0 (by decide)) (by omega) e1
  have r2 := mm_ev_ri 30000 none 900 206 _ _ _ _ (ri_zh r1 (by omega)) (by omega) e3
  have c3 : ∀ z : Nat, z < 56 → h2.2.1 24 z = iN (-1) ∧ h2.2.1 25 z = iN 0 ∧ h2.2.1 78 z = iN 0 ∧ h2.2.1 79 z = iN 0 := by
    intro z hz
    have := List.all_eq_true.mp a3 z (List.mem_range.mpr hz)
    simp only [Bool.and_eq_true, decide_eq_true_eq] at this
    exact this
  have c4 : ∀ z : Nat, z < 28 → h2.2.1 32 z = iN (t0 (z : Int)) ∧ h2.2.1 84 z = iN 0 := by
    intro z hz
    have := List.all_eq_true.mp a4 z (List.mem_range.mpr hz)
    simp only [Bool.and_eq_true, decide_eq_true_eq] at this
    exact this
  have c5 : cw h2.2.2.1 := fun k hk => of_decide_eq_true (List.all_eq_true.mp a5 k (List.mem_range.mpr hk))
  have hrf : h2.2.2.2 = mm_rf 19 3 3 39 40 := by
    funext x k
    by_cases hx : 107 ≤ x ∨ mm_nf x ≤ k
    · rw [r2.2 x k hx, rf_nf hx]
    · have := List.all_eq_true.mp b x (List.mem_range.mpr (by omega))
      have := List.all_eq_true.mp this k (List.mem_range.mpr (by omega))
      exact Nat.eq_of_beq_eq_true this
  obtain ⟨q, I, J, R⟩ := h2
  have g : ∀ {a k : Nat} {v : Int}, (a, k, v) ∈ okL → I a k = iN v := fun hm => okL_at (h := (q, I, J, R)) a2 hm
  clear a3 a4 a5
  dsimp only at a1 c3 c4 c5 hrf
  subst a1
  subst hrf
  have w00 : vW W0 0 0 = 8 := by decide
  have w01 : vW W0 0 1 = 6 := by decide
  have w02 : vW W0 0 2 = 0 := by decide
  have w03 : vW W0 0 3 = 0 := by decide
  have w04 : vW W0 0 4 = 0 := by decide
  have w05 : vW W0 0 5 = 0 := by decide
  have w06 : vW W0 0 6 = 0 := by decide
  have w1 : ∀ z, vW W0 1 z = 0 := fun z => by rw [vW_1]; exact if_pos (by show (-1 : Int) < 0; omega)
  have w2 : ∀ z, vW W0 2 z = 0 := fun z => by rw [vW_r (by omega)]; exact W0_r (by omega) (by omega)
  have s0 : ∀ z, sW W0 z = 0 := by
    intro z
    unfold sW
    rw [show W0 0 2 = 0 from rfl, show W0 0 3 = 0 from rfl, show W0 0 7 = 0 from rfl, if_neg (by omega), if_neg (by omega)]
    split <;> rfl
  have hW := wfB_0 (NB := fun _ => []) (NL := fun _ => [])
  refine ⟨vW W0, sW W0, fun _ _ => 0, 0, 0, fun _ => false, fun _ _ => 0, fun _ _ => 0, 0, 0, fun _ => 0, 0, [], iN 0, iN (-1), I, J, 19, 3, 3, 39, 40, rfl, by omega, by omega, Or.inl ⟨rfl, rfl⟩, c5, ⟨wfV_W hW, wfS_W hW (by omega), fun i hi => by omega, fun b _ _ h => (by cases h), ⟨by omega, by omega, fun j q1 q2 => by omega⟩, by simp⟩, ?_, ?_⟩
  · refine ⟨⟨⟨?_, ?_, ?_, ?_, ?_, ?_, ?_⟩, ⟨fun _ => -1, fun z z1 z2 => (c3 z.toNat (by omega)).1, fun z z1 z2 => ⟨by show (-1 : Int) ≤ -1; omega, by show (-1 : Int) ≤ 7; omega, by rw [w1]; rfl⟩⟩, fun z z1 z2 => ?_, fun z z1 z2 => ?_, fun z z1 z2 => ?_, fun z z1 z2 => ?_, fun z z1 z2 => ?_, fun z z1 z2 => ?_⟩, ⟨t0, fun z z1 z2 => by have := (c4 z.toNat (by omega)).1; rw [show ((z.toNat : Nat) : Int) = z from by omega] at this; exact this, fun b w b1 b2 => ?_, fun l l1 l2 => ?_, ?_⟩, ⟨by omega, 0, by omega, g (by decide), g (by decide), g (by decide), fun i hi => by omega, fun j hj => by omega⟩, ⟨fun b _ _ => ?_, fun b _ _ h => by cases h⟩, ⟨g (by decide), g (by decide), fun j w q1 q2 _ => by omega⟩, Or.inl (g (by decide)), ⟨by omega, g (by decide), fun k hk => by omega⟩, ⟨g (by decide), fun z hz => by cases hz⟩, g (by decide), g (by decide)⟩
    · rw [w00]; exact g (by decide)
    · rw [w01]; exact g (by decide)
    · rw [w02]; exact g (by decide)
    · rw [w03]; exact g (by decide)
    · rw [w04]; exact g (by decide)
    · rw [w05]; exact g (by decide)
    · rw [w06]; exact g (by decide)
    · rw [w2]; exact (c3 z.toNat (by omega)).2.1
    · rw [w02] at z2; omega
    · rw [w02] at z2; omega
    · rw [w02] at z2; omega
    · rw [w03] at z2; omega
    · rw [w05] at z2; omega
    · rw [w02] at b2; omega
    · rw [w03] at l2; omega
    · rw [s0]; decide
    · rw [g (a := 33) (k := 2) (v := 0) (by decide)]; exact bit_0
  · refine ⟨⟨⟨?_, ?_, ?_, ?_, ?_, ?_, ?_⟩, fun z z1 z2 => ?_, fun z z1 z2 => ?_, fun z z1 z2 => ?_, fun z z1 z2 => ?_, fun z z1 z2 => ?_, fun z z1 z2 => ?_, fun z z1 z2 => ?_, fun z z1 z2 => ?_⟩, fun z z1 z2 => ?_, ⟨by omega, g (by decide), g (by decide), fun i hi => by omega⟩, fun b q1 q2 => ⟨?_, fun h => by cases h⟩, ⟨g (by decide), g (by decide), fun z q1 q2 => by omega, fun z q1 q2 => by omega, fun z q1 q2 => by omega, fun z q1 q2 => by omega, fun z q1 q2 => by omega, fun z q1 q2 => by omega⟩, ⟨by omega, g (by decide), fun k hk => by omega⟩, ⟨g (by decide), fun z hz => by cases hz⟩, g (by decide), g (by decide)⟩
    · rw [w00]; exact g (by decide)
    · rw [w01]; exact g (by decide)
    · rw [w02]; exact g (by decide)
    · rw [w03]; exact g (by decide)
    · rw [w04]; exact g (by decide)
    · rw [w05]; exact g (by decide)
    · rw [w06]; exact g (by decide)
    · rw [w1]; exact (c3 z.toNat (by omega)).2.2.1
    · rw [w2]; exact (c3 z.toNat (by omega)).2.2.2
    · rw [w02] at z2; omega
    · rw [w02] at z2; omega
    · rw [w02] at z2; omega
    · rw [w03] at z2; omega
    · rw [w05] at z2; omega
    · rw [w05] at z2; omega
    · rw [s0]; exact (c4 z.toNat (by omega)).2
    · obtain rfl | rfl | rfl : b = 0 ∨ b = 1 ∨ b = 2 := by omega
      · exact g (a := 105) (k := 0) (v := 0) (by decide)
      · exact g (a := 105) (k := 1) (v := 0) (by decide)
      · exact g (a := 105) (k := 2) (v := 0) (by decide)
