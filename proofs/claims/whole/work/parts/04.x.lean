/-- what a field's kind says of its type -/
def mm_kt (kd : Nat) (ty : FieldType) : Bool := match kd, ty with
  | 0, .int => true
  | 1, .long => true
  | 3, .boolean => true
  | 2, .object _ => true
  | 2, .array _ => true
  | _, _ => false
def mm_fok (ci : Nat) (q : vw_C) (ty : Nat → FieldType) (k : Nat) : Bool := match mm_lk mm_fk (ci * 100 + k) with
  | some (kd, fin) => mm_kt kd (ty k) && (Nat.beq fin 1 == (q.2.1 k).2.2.2) && decide ((q.2.1 k).1 = q.1)
  | none => false
def mm_Vw (ci : Nat) (q : vw_C) (ty : Nat → FieldType) : Prop := vwCl[ci]? = some q ∧ q.2.2 = mm_fn.getD ci 0 ∧ q.1 = mm_on ci ∧ (∀ w ∈ u_ws q.1 q.2.1 q.2.2, w ∈ mm_TT) ∧ (∀ k, k < q.2.2 → parseFieldDescriptor (q.2.1 k).2.2.1 = some (ty k)) ∧ (∀ a, a < q.2.2 → ∀ b, b < q.2.2 → a ≠ b → (q.2.1 a).2.1 ≠ (q.2.1 b).2.1) ∧ (∀ k, k < q.2.2 → mm_fok ci q ty k = true)
theorem mm_uws {ci : Nat} {q : vw_C} (h : vwCl[ci]? = some q) (hl : (List.range q.2.2).all (fun k => mm_lyP.any (fun e => Nat.beq e.1 ci && Nat.beq e.2.1 k)) = true) : ∀ w ∈ u_ws q.1 q.2.1 q.2.2, w ∈ mm_TT := by
  intro w hw
  obtain ⟨k, hk, rfl⟩ := List.mem_map.mp hw
  obtain ⟨e, he, h2⟩ := List.any_eq_true.mp (List.all_eq_true.mp hl k hk)
  simp only [Bool.and_eq_true, Nat.beq_eq] at h2
  have h3 := mm_chk_in (mm_lyP_ok e he)
  unfold mm_lyw at h3
  rw [h2.1, h2.2, h] at h3
  exact h3
set_option maxRecDepth 100000 in
theorem mm_vw0 : mm_Vw 0 (RX0, TX0, 5) tyX0 := ⟨rfl, by decide +kernel, rfl, mm_uws (ci := 0) rfl (by decide +kernel), tyX0_ok, nmX0, by decide +kernel⟩
set_option maxRecDepth 100000 in
theorem mm_vw1 : mm_Vw 1 (RX1, TX1, 9) tyX1 := ⟨rfl, by decide +kernel, rfl, mm_uws (ci := 1) rfl (by decide +kernel), tyX1_ok, nmX1, by decide +kernel⟩
set_option maxRecDepth 100000 in
theorem mm_vw2 : mm_Vw 2 (RX2, TX2, 6) tyX2 := ⟨rfl, by decide +kernel, rfl, mm_uws (ci := 2) rfl (by decide +kernel), tyX2_ok, nmX2, by decide +kernel⟩
set_option maxRecDepth 100000 in
theorem mm_vw3 : mm_Vw 3 (RX3, TX3, 2) tyX3 := ⟨rfl, by decide +kernel, rfl, mm_uws (ci := 3) rfl (by decide +kernel), tyX3_ok, nmX3, by decide +kernel⟩
set_option maxRecDepth 100000 in
theorem mm_vw4 : mm_Vw 4 (RX4, TX4, 13) tyX4 := ⟨rfl, by decide +kernel, rfl, mm_uws (ci := 4) rfl (by decide +kernel), tyX4_ok, nmX4, by decide +kernel⟩
set_option maxRecDepth 100000 in
theorem mm_vw5 : mm_Vw 5 (RX5, TX5, 17) tyX5 := ⟨rfl, by decide +kernel, rfl, mm_uws (ci := 5) rfl (by decide +kernel), tyX5_ok, nmX5, by decide +kernel⟩
set_option maxRecDepth 100000 in
theorem mm_vw6 : mm_Vw 6 (RX6, TX6, 5) tyX6 := ⟨rfl, by decide +kernel, rfl, mm_uws (ci := 6) rfl (by decide +kernel), tyX6_ok, nmX6, by decide +kernel⟩
set_option maxRecDepth 100000 in
theorem mm_vw7 : mm_Vw 7 (RX7, TX7, 2) tyX7 := ⟨rfl, by decide +kernel, rfl, mm_uws (ci := 7) rfl (by decide +kernel), tyX7_ok, nmX7, by decide +kernel⟩
set_option maxRecDepth 100000 in
theorem mm_vw8 : mm_Vw 8 (RX8, TX8, 9) tyX8 := ⟨rfl, by decide +kernel, rfl, mm_uws (ci := 8) rfl (by decide +kernel), tyX8_ok, nmX8, by decide +kernel⟩
set_option maxRecDepth 100000 in
theorem mm_vw9 : mm_Vw 9 (RX9, TX9, 8) tyX9 := ⟨rfl, by decide +kernel, rfl, mm_uws (ci := 9) rfl (by decide +kernel), tyX9_ok, nmX9, by decide +kernel⟩
set_option maxRecDepth 100000 in
theorem mm_vw10 : mm_Vw 10 (RX10, TX10, 11) tyX10 := ⟨rfl, by decide +kernel, rfl, mm_uws (ci := 10) rfl (by decide +kernel), tyX10_ok, nmX10, by decide +kernel⟩
set_option maxRecDepth 100000 in
theorem mm_vw11 : mm_Vw 11 (RX11, TX11, 14) tyX11 := ⟨rfl, by decide +kernel, rfl, mm_uws (ci := 11) rfl (by decide +kernel), tyX11_ok, nmX11, by decide +kernel⟩
set_option maxRecDepth 100000 in
theorem mm_vw12 : mm_Vw 12 (RX12, TX12, 82) tyX12 := ⟨rfl, by decide +kernel, rfl, mm_uws (ci := 12) rfl (by decide +kernel), tyX12_ok, nmX12, by decide +kernel⟩
theorem mm_vw : ∀ ci, ci < 13 → ∃ (q : vw_C) (ty : Nat → FieldType), mm_Vw ci q ty
  | 0, _ => ⟨_, _, mm_vw0⟩
  | 1, _ => ⟨_, _, mm_vw1⟩
  | 2, _ => ⟨_, _, mm_vw2⟩
  | 3, _ => ⟨_, _, mm_vw3⟩
  | 4, _ => ⟨_, _, mm_vw4⟩
  | 5, _ => ⟨_, _, mm_vw5⟩
  | 6, _ => ⟨_, _, mm_vw6⟩
  | 7, _ => ⟨_, _, mm_vw7⟩
  | 8, _ => ⟨_, _, mm_vw8⟩
  | 9, _ => ⟨_, _, mm_vw9⟩
  | 10, _ => ⟨_, _, mm_vw10⟩
  | 11, _ => ⟨_, _, mm_vw11⟩
  | 12, _ => ⟨_, _, mm_vw12⟩
  | ci + 13, h => absurd h (by omega)
theorem mm_fl_word {own k ci j : Nat} (hk : k < 2000) (h : mm_lk mm_fl (own * 2000 + k) = some (ci, j)) (hc : ci < 13) {q : vw_C} (hq : vwCl[ci]? = some q) : Cond.fieldLink (mm_on own) k (q.2.1 j).1 (q.2.1 j).2.1 (q.2.1 j).2.2.1 ∈ mm_TT := by
  obtain ⟨p, hp⟩ := mm_fl_in _ (mm_lk_spec h) hc
  have h1 := mm_chk_in (mm_flP_ok _ hp)
  unfold mm_flw mm_T2 at h1
  simp only [hq] at h1
  rw [show (own * 2000 + k) / 2000 = own by omega, show (own * 2000 + k) % 2000 = k by omega] at h1
  exact h1
set_option maxRecDepth 100000 in
theorem mm_fl_k {x : Nat} {ci j : Nat} (h : mm_lk mm_fl x = some (ci, j)) (hc : ci < 13) : j < mm_fn.getD ci 0 := by
  have h0 : (mm_lv mm_fl).all (fun x => !(Nat.blt x.2.1 13) || Nat.blt x.2.2 (mm_fn.getD x.2.1 0)) = true := by decide +kernel
  have h1 := List.all_eq_true.mp h0 _ (mm_lk_spec h)
  have hb : Nat.blt ci 13 = true := Nat.ble_eq_true_of_le hc
  simp only [hb, Bool.not_true, Bool.false_or] at h1
  exact Nat.le_of_ble_eq_true h1
