section MMS3
variable {p : Program} {l : Launch} {e : Env} {R : Room} {s : State} {mid : MethodId} {args : Array Value} {below : List Frame} {meth : Method} {c : Code} {H : Heap} {locs : List Loc} {cells slots : Nat} {Q : State → Prop}
variable {m bs : Nat} {cs : Nat → ClassId} {xv : Nat → Value} {X : mm_X} {D : va_G} {pc len pc' : Nat} {i : Instr} {ls ls' : List (Option Value)} {st st' : List Value} {h h' : mm_H} {sl : Array Slot}
theorem mm_sim_iald (C : mm_Ctx p s mid args meth c m bs cs xv X D) (hdg : decode (mm_b m) pc = .ok (.iaload, 1)) (hd : mm_ald pc ls st h X false = some (.inl ((pc', ls', st'), h'))) (Dy : mm_Dyn s m bs cs xv D ls h sl H locs)
    (kk : ∀ sl' H' locs', mm_Dyn s m bs cs xv D ls' h' sl' H' locs' → W p l e R s mid args below meth c H' locs' cells slots Q (F0 mid pc' sl' (st'.map (mm_cv xv bs)))) : W p l e R s mid args below meth c H locs cells slots Q (F0 mid pc sl (st.map (mm_cv xv bs))) := by
  obtain ⟨hx, hb, hml, hown, hts, hnw, hK, hbs, hm, hini, hxc, hxr, hext, hscr⟩ := C
  obtain ⟨hsz, h0, hP, hS, hl⟩ := id Dy
  unfold mm_ald at hd
  split at hd
  · next i a r =>
    obtain ⟨ho, hd⟩ := mm_cond_inv hd
    obtain ⟨ha0, ha1, hsh⟩ := mm_isA_spec (kd := 1) ho (by omega)
    obtain ⟨hin, hd⟩ := mm_ix_inv hd
    obtain ⟨rfl, rfl, rfl, rfl⟩ := mm_nx_inj hd
    have he : (mm_ws bs cs h)[a - 1]? = some (bs + a, .inl (cs 1, mm_len a, .inl (h.2.1 a))) := by
      rw [mm_ws_get bs cs h ha0 ha1, mm_cell_I hsh (Or.inl rfl)]
    have goal := va_iald (p := p) (l := l) (e := e) (R := R) (below := below) (meth := meth) (locs := locs) (cells := cells) (slots := slots) (Q := Q) (ls := sl) (rest := r.map (mm_cv xv bs)) hx hb hK hP (a - 1) 0 he rfl hin hdg (kk sl H locs Dy)
    rw [← mm_rv_pos ha0] at goal
    exact goal
  · next i a r =>
    split at hd
    · split at hd
      · next x =>
        obtain ⟨hin, hd⟩ := mm_ix_inv hd
        obtain ⟨rfl, rfl, rfl, rfl⟩ := mm_nx_inj hd
        obtain ⟨b, hb0, hX, hbb⟩ := hscr
        have goal := va_sld (p := p) (l := l) (e := e) (R := R) (below := below) (meth := meth) (locs := locs) (cells := cells) (slots := slots) (Q := Q) (ls := sl) (rest := r.map (mm_cv xv bs)) hx hb hX (Nat.lt_of_le_of_lt hbb hbs) (show ¬ bs < b by omega) hS hin hdg (kk sl H locs Dy)
        rw [← hb0] at goal
        exact goal
      · cases hd
    · next hz => cases hz
    · next hz => cases hz
    · cases hd
  · cases hd
theorem mm_sim_bald (C : mm_Ctx p s mid args meth c m bs cs xv X D) (hdg : decode (mm_b m) pc = .ok (.baload, 1)) (hd : mm_ald pc ls st h X true = some (.inl ((pc', ls', st'), h'))) (Dy : mm_Dyn s m bs cs xv D ls h sl H locs)
    (kk : ∀ sl' H' locs', mm_Dyn s m bs cs xv D ls' h' sl' H' locs' → W p l e R s mid args below meth c H' locs' cells slots Q (F0 mid pc' sl' (st'.map (mm_cv xv bs)))) : W p l e R s mid args below meth c H locs cells slots Q (F0 mid pc sl (st.map (mm_cv xv bs))) := by
  obtain ⟨hx, hb, hml, hown, hts, hnw, hK, hbs, hm, hini, hxc, hxr, hext, hscr⟩ := C
  obtain ⟨hsz, h0, hP, hS, hl⟩ := id Dy
  unfold mm_ald at hd
  split at hd
  · next i a r =>
    obtain ⟨ho, hd⟩ := mm_cond_inv hd
    have ho : mm_isA a 2 h.1 = true ∨ mm_isA a 3 h.1 = true := by simpa using ho
    obtain ⟨hin, hd⟩ := mm_ix_inv hd
    obtain ⟨rfl, rfl, rfl, rfl⟩ := mm_nx_inj hd
    rcases ho with ho | ho
    · obtain ⟨ha0, ha1, hsh⟩ := mm_isA_spec (kd := 2) ho (by omega)
      have he : (mm_ws bs cs h)[a - 1]? = some (bs + a, .inl (cs 2, mm_len a, .inl (h.2.1 a))) := by
        rw [mm_ws_get bs cs h ha0 ha1, mm_cell_I hsh (Or.inr (Or.inl rfl))]
      have goal := va_bald (p := p) (l := l) (e := e) (R := R) (below := below) (meth := meth) (locs := locs) (cells := cells) (slots := slots) (Q := Q) (ls := sl) (rest := r.map (mm_cv xv bs)) hx hb hK hP (a - 1) 1 he rfl hin hdg (kk sl H locs Dy)
      rw [← mm_rv_pos ha0] at goal
      exact goal
    · obtain ⟨ha0, ha1, hsh⟩ := mm_isA_spec (kd := 3) ho (by omega)
      have he : (mm_ws bs cs h)[a - 1]? = some (bs + a, .inl (cs 3, mm_len a, .inl (h.2.1 a))) := by
        rw [mm_ws_get bs cs h ha0 ha1, mm_cell_I hsh (Or.inr (Or.inr rfl))]
      have goal := va_zald (p := p) (l := l) (e := e) (R := R) (below := below) (meth := meth) (locs := locs) (cells := cells) (slots := slots) (Q := Q) (ls := sl) (rest := r.map (mm_cv xv bs)) hx hb hK hP (a - 1) 2 he rfl hin hdg (kk sl H locs Dy)
      rw [← mm_rv_pos ha0] at goal
      exact goal
  · next i a r =>
    obtain ⟨adK, adV, hSt, hR1, hR2, x1, x2, x3, x4, hZ1, hZ2⟩ := hext
    split at hd
    · next hz => cases hz
    · obtain ⟨hin, hd⟩ := mm_ix_inv hd
      obtain ⟨rfl, rfl, rfl, rfl⟩ := mm_nx_inj hd
      have goal := va_tb (p := p) (l := l) (e := e) (R := R) (below := below) (meth := meth) (locs := locs) (cells := cells) (slots := slots) (Q := Q) (ls := sl) (rest := r.map (mm_cv xv bs)) (v := .int (mm_sb1.getD i.toNatClampNeg 0)) hx hb (hSt.1 0 (by omega)).2.2.2 hS hin rfl hdg (kk sl H locs Dy)
      rw [← x3] at goal
      exact goal
    · obtain ⟨hin, hd⟩ := mm_ix_inv hd
      obtain ⟨rfl, rfl, rfl, rfl⟩ := mm_nx_inj hd
      have goal := va_tb (p := p) (l := l) (e := e) (R := R) (below := below) (meth := meth) (locs := locs) (cells := cells) (slots := slots) (Q := Q) (ls := sl) (rest := r.map (mm_cv xv bs)) (v := .int (mm_sb2.getD i.toNatClampNeg 0)) hx hb (hSt.1 1 (by omega)).2.2.2 hS hin rfl hdg (kk sl H locs Dy)
      rw [← x4] at goal
      exact goal
    · cases hd
  · cases hd
theorem mm_sim_iast (C : mm_Ctx p s mid args meth c m bs cs xv X D) (hdg : decode (mm_b m) pc = .ok (.iastore, 1)) (hd : mm_ast pc ls st h 1 (fun x => x) = some (.inl ((pc', ls', st'), h'))) (Dy : mm_Dyn s m bs cs xv D ls h sl H locs)
    (kk : ∀ sl' H' locs', mm_Dyn s m bs cs xv D ls' h' sl' H' locs' → W p l e R s mid args below meth c H' locs' cells slots Q (F0 mid pc' sl' (st'.map (mm_cv xv bs)))) : W p l e R s mid args below meth c H locs cells slots Q (F0 mid pc sl (st.map (mm_cv xv bs))) := by
  obtain ⟨hx, hb, hml, hown, hts, hnw, hK, hbs, hm, hini, hxc, hxr, hext, hscr⟩ := C
  obtain ⟨hsz, h0, hP, hS, hl⟩ := id Dy
  unfold mm_ast at hd
  split at hd
  · next x i a r =>
    obtain ⟨ho, hd⟩ := mm_cond_inv hd
    obtain ⟨ha0, ha1, hsh⟩ := mm_isA_spec (kd := 1) ho (by omega)
    obtain ⟨hin, hd⟩ := mm_ix_inv hd
    obtain ⟨rfl, rfl, rfl, rfl⟩ := mm_nx_inj hd
    have he : (mm_ws bs cs h)[a - 1]? = some (bs + a, .inl (cs 1, mm_len a, .inl (h.2.1 a))) := by
      rw [mm_ws_get bs cs h ha0 ha1, mm_cell_I hsh (Or.inl rfl)]
    show W p l e R s mid args below meth c H locs cells slots Q (F0 mid pc sl (.int x :: .int i :: mm_rv bs a :: r.map (mm_cv xv bs)))
    rw [mm_rv_pos ha0]
    refine mm_iast hx hb hK hP (mm_ws_D bs cs h) hS (a - 1) 0 he rfl hin hdg (fun H1 locs1 z1 z2 z3 => ?_)
    have hset : (mm_ws bs cs h).set (a - 1) (bs + a, .inl (cs 1, mm_len a, .inl (fun q => if q = i.toNatClampNeg then (fun x => x) x else h.2.1 a q))) = mm_ws bs cs (h.1, mm_up h.2.1 a i.toNatClampNeg ((fun x => x) x), h.2.2.1, h.2.2.2) :=
      mm_ws_set (h := h) (h' := (h.1, mm_up h.2.1 a i.toNatClampNeg ((fun x => x) x), h.2.2.1, h.2.2.2)) rfl ha0 ha1 (fun b hb => mm_cell_cong (mm_up_ne hb) rfl rfl) (by rw [mm_cell_I hsh (Or.inl rfl)]; exact congrArg (fun z => (Sum.inl (cs 1, mm_len a, Sum.inl z) : va_E)) mm_up_row)
    rw [hset] at z2
    exact kk sl H1 locs1 ⟨by rw [z1]; exact hsz, h0, z2, z3, hl⟩
  · cases hd
theorem mm_sim_bast (C : mm_Ctx p s mid args meth c m bs cs xv X D) (hdg : decode (mm_b m) pc = .ok (.bastore, 1)) (hd : mm_ast pc ls st h 2 (vp_nar .byte) = some (.inl ((pc', ls', st'), h'))) (Dy : mm_Dyn s m bs cs xv D ls h sl H locs)
    (kk : ∀ sl' H' locs', mm_Dyn s m bs cs xv D ls' h' sl' H' locs' → W p l e R s mid args below meth c H' locs' cells slots Q (F0 mid pc' sl' (st'.map (mm_cv xv bs)))) : W p l e R s mid args below meth c H locs cells slots Q (F0 mid pc sl (st.map (mm_cv xv bs))) := by
  obtain ⟨hx, hb, hml, hown, hts, hnw, hK, hbs, hm, hini, hxc, hxr, hext, hscr⟩ := C
  obtain ⟨hsz, h0, hP, hS, hl⟩ := id Dy
  unfold mm_ast at hd
  split at hd
  · next x i a r =>
    obtain ⟨ho, hd⟩ := mm_cond_inv hd
    obtain ⟨ha0, ha1, hsh⟩ := mm_isA_spec (kd := 2) ho (by omega)
    obtain ⟨hin, hd⟩ := mm_ix_inv hd
    obtain ⟨rfl, rfl, rfl, rfl⟩ := mm_nx_inj hd
    have he : (mm_ws bs cs h)[a - 1]? = some (bs + a, .inl (cs 2, mm_len a, .inl (h.2.1 a))) := by
      rw [mm_ws_get bs cs h ha0 ha1, mm_cell_I hsh (Or.inr (Or.inl rfl))]
    show W p l e R s mid args below meth c H locs cells slots Q (F0 mid pc sl (.int x :: .int i :: mm_rv bs a :: r.map (mm_cv xv bs)))
    rw [mm_rv_pos ha0]
    refine mm_bast hx hb hK hP (mm_ws_D bs cs h) hS (a - 1) 1 he rfl hin hdg (fun H1 locs1 z1 z2 z3 => ?_)
    have hset : (mm_ws bs cs h).set (a - 1) (bs + a, .inl (cs 2, mm_len a, .inl (fun q => if q = i.toNatClampNeg then (vp_nar .byte) x else h.2.1 a q))) = mm_ws bs cs (h.1, mm_up h.2.1 a i.toNatClampNeg ((vp_nar .byte) x), h.2.2.1, h.2.2.2) :=
      mm_ws_set (h := h) (h' := (h.1, mm_up h.2.1 a i.toNatClampNeg ((vp_nar .byte) x), h.2.2.1, h.2.2.2)) rfl ha0 ha1 (fun b hb => mm_cell_cong (mm_up_ne hb) rfl rfl) (by rw [mm_cell_I hsh (Or.inr (Or.inl rfl))]; exact congrArg (fun z => (Sum.inl (cs 2, mm_len a, Sum.inl z) : va_E)) mm_up_row)
    rw [hset] at z2
    exact kk sl H1 locs1 ⟨by rw [z1]; exact hsz, h0, z2, z3, hl⟩
  · cases hd
theorem mm_sim_zast (C : mm_Ctx p s mid args meth c m bs cs xv X D) (hdg : decode (mm_b m) pc = .ok (.bastore, 1)) (hd : mm_ast pc ls st h 3 (vp_nar .boolean) = some (.inl ((pc', ls', st'), h'))) (Dy : mm_Dyn s m bs cs xv D ls h sl H locs)
    (kk : ∀ sl' H' locs', mm_Dyn s m bs cs xv D ls' h' sl' H' locs' → W p l e R s mid args below meth c H' locs' cells slots Q (F0 mid pc' sl' (st'.map (mm_cv xv bs)))) : W p l e R s mid args below meth c H locs cells slots Q (F0 mid pc sl (st.map (mm_cv xv bs))) := by
  obtain ⟨hx, hb, hml, hown, hts, hnw, hK, hbs, hm, hini, hxc, hxr, hext, hscr⟩ := C
  obtain ⟨hsz, h0, hP, hS, hl⟩ := id Dy
  unfold mm_ast at hd
  split at hd
  · next x i a r =>
    obtain ⟨ho, hd⟩ := mm_cond_inv hd
    obtain ⟨ha0, ha1, hsh⟩ := mm_isA_spec (kd := 3) ho (by omega)
    obtain ⟨hin, hd⟩ := mm_ix_inv hd
    obtain ⟨rfl, rfl, rfl, rfl⟩ := mm_nx_inj hd
    have he : (mm_ws bs cs h)[a - 1]? = some (bs + a, .inl (cs 3, mm_len a, .inl (h.2.1 a))) := by
      rw [mm_ws_get bs cs h ha0 ha1, mm_cell_I hsh (Or.inr (Or.inr rfl))]
    show W p l e R s mid args below meth c H locs cells slots Q (F0 mid pc sl (.int x :: .int i :: mm_rv bs a :: r.map (mm_cv xv bs)))
    rw [mm_rv_pos ha0]
    refine mm_zast hx hb hK hP (mm_ws_D bs cs h) hS (a - 1) 2 he rfl hin hdg (fun H1 locs1 z1 z2 z3 => ?_)
    have hset : (mm_ws bs cs h).set (a - 1) (bs + a, .inl (cs 3, mm_len a, .inl (fun q => if q = i.toNatClampNeg then (vp_nar .boolean) x else h.2.1 a q))) = mm_ws bs cs (h.1, mm_up h.2.1 a i.toNatClampNeg ((vp_nar .boolean) x), h.2.2.1, h.2.2.2) :=
      mm_ws_set (h := h) (h' := (h.1, mm_up h.2.1 a i.toNatClampNeg ((vp_nar .boolean) x), h.2.2.1, h.2.2.2)) rfl ha0 ha1 (fun b hb => mm_cell_cong (mm_up_ne hb) rfl rfl) (by rw [mm_cell_I hsh (Or.inr (Or.inr rfl))]; exact congrArg (fun z => (Sum.inl (cs 3, mm_len a, Sum.inl z) : va_E)) mm_up_row)
    rw [hset] at z2
    exact kk sl H1 locs1 ⟨by rw [z1]; exact hsz, h0, z2, z3, hl⟩
  · cases hd
theorem mm_sim_lald (C : mm_Ctx p s mid args meth c m bs cs xv X D) (hdg : decode (mm_b m) pc = .ok (.laload, 1)) (hd : mm_lald pc ls st h = some (.inl ((pc', ls', st'), h'))) (Dy : mm_Dyn s m bs cs xv D ls h sl H locs)
    (kk : ∀ sl' H' locs', mm_Dyn s m bs cs xv D ls' h' sl' H' locs' → W p l e R s mid args below meth c H' locs' cells slots Q (F0 mid pc' sl' (st'.map (mm_cv xv bs)))) : W p l e R s mid args below meth c H locs cells slots Q (F0 mid pc sl (st.map (mm_cv xv bs))) := by
  obtain ⟨hx, hb, hml, hown, hts, hnw, hK, hbs, hm, hini, hxc, hxr, hext, hscr⟩ := C
  obtain ⟨hsz, h0, hP, hS, hl⟩ := id Dy
  unfold mm_lald at hd
  split at hd
  · next i a r =>
    obtain ⟨ho, hd⟩ := mm_cond_inv hd
    obtain ⟨ha0, ha1, hsh⟩ := mm_isA_spec (kd := 4) ho (by omega)
    obtain ⟨hin, hd⟩ := mm_ix_inv hd
    obtain ⟨rfl, rfl, rfl, rfl⟩ := mm_nx_inj hd
    have he : (mm_ws bs cs h)[a - 1]? = some (bs + a, .inl (cs 4, mm_len a, .inr (.inl (h.2.2.1 a)))) := by
      rw [mm_ws_get bs cs h ha0 ha1, mm_cell_J hsh]
    have goal := va_lald (p := p) (l := l) (e := e) (R := R) (below := below) (meth := meth) (locs := locs) (cells := cells) (slots := slots) (Q := Q) (ls := sl) (rest := r.map (mm_cv xv bs)) hx hb hK hP (a - 1) 3 he rfl hin hdg (kk sl H locs Dy)
    rw [← mm_rv_pos ha0] at goal
    exact goal
  · cases hd
theorem mm_sim_last (C : mm_Ctx p s mid args meth c m bs cs xv X D) (hdg : decode (mm_b m) pc = .ok (.lastore, 1)) (hd : mm_last pc ls st h = some (.inl ((pc', ls', st'), h'))) (Dy : mm_Dyn s m bs cs xv D ls h sl H locs)
    (kk : ∀ sl' H' locs', mm_Dyn s m bs cs xv D ls' h' sl' H' locs' → W p l e R s mid args below meth c H' locs' cells slots Q (F0 mid pc' sl' (st'.map (mm_cv xv bs)))) : W p l e R s mid args below meth c H locs cells slots Q (F0 mid pc sl (st.map (mm_cv xv bs))) := by
  obtain ⟨hx, hb, hml, hown, hts, hnw, hK, hbs, hm, hini, hxc, hxr, hext, hscr⟩ := C
  obtain ⟨hsz, h0, hP, hS, hl⟩ := id Dy
  unfold mm_last at hd
  split at hd
  · next x i a r =>
    obtain ⟨ho, hd⟩ := mm_cond_inv hd
    obtain ⟨ha0, ha1, hsh⟩ := mm_isA_spec (kd := 4) ho (by omega)
    obtain ⟨hin, hd⟩ := mm_ix_inv hd
    obtain ⟨rfl, rfl, rfl, rfl⟩ := mm_nx_inj hd
    have he : (mm_ws bs cs h)[a - 1]? = some (bs + a, .inl (cs 4, mm_len a, .inr (.inl (h.2.2.1 a)))) := by
      rw [mm_ws_get bs cs h ha0 ha1, mm_cell_J hsh]
    show W p l e R s mid args below meth c H locs cells slots Q (F0 mid pc sl (.long x :: .int i :: mm_rv bs a :: r.map (mm_cv xv bs)))
    rw [mm_rv_pos ha0]
    refine mm_rlast hx hb hK hP (mm_ws_D bs cs h) hS (a - 1) 3 he rfl hin hdg (fun H1 locs1 z1 z2 z3 => ?_)
    have hset : (mm_ws bs cs h).set (a - 1) (bs + a, .inl (cs 4, mm_len a, .inr (.inl (fun q => if q = i.toNatClampNeg then x else h.2.2.1 a q)))) = mm_ws bs cs (h.1, h.2.1, mm_up h.2.2.1 a i.toNatClampNeg x, h.2.2.2) :=
      mm_ws_set (h := h) (h' := (h.1, h.2.1, mm_up h.2.2.1 a i.toNatClampNeg x, h.2.2.2)) rfl ha0 ha1 (fun b hb => mm_cell_cong rfl (mm_up_ne hb) rfl) (by rw [mm_cell_J hsh]; exact congrArg (fun z => (Sum.inl (cs 4, mm_len a, Sum.inr (Sum.inl z)) : va_E)) mm_up_row)
    rw [hset] at z2
    exact kk sl H1 locs1 ⟨by rw [z1]; exact hsz, h0, z2, z3, hl⟩
  · cases hd
theorem mm_sim_alen (C : mm_Ctx p s mid args meth c m bs cs xv X D) (hdg : decode (mm_b m) pc = .ok (.arraylength, 1)) (hd : mm_alen pc ls st h X = some (.inl ((pc', ls', st'), h'))) (Dy : mm_Dyn s m bs cs xv D ls h sl H locs)
    (kk : ∀ sl' H' locs', mm_Dyn s m bs cs xv D ls' h' sl' H' locs' → W p l e R s mid args below meth c H' locs' cells slots Q (F0 mid pc' sl' (st'.map (mm_cv xv bs)))) : W p l e R s mid args below meth c H locs cells slots Q (F0 mid pc sl (st.map (mm_cv xv bs))) := by
  obtain ⟨hx, hb, hml, hown, hts, hnw, hK, hbs, hm, hini, hxc, hxr, hext, hscr⟩ := C
  obtain ⟨hsz, h0, hP, hS, hl⟩ := id Dy
  unfold mm_alen at hd
  split at hd
  · next a r =>
    obtain ⟨ho, hd⟩ := mm_cond_inv hd
    obtain ⟨rfl, rfl, rfl, rfl⟩ := mm_nx_inj hd
    simp only [Bool.and_eq_true] at ho
    obtain ⟨⟨g1, g2⟩, g3⟩ := ho
    have g1 : a < h.1 := Nat.le_of_ble_eq_true g1
    have g2 : 1 ≤ (mm_sh a).1 := Nat.le_of_ble_eq_true g2
    have g3 : (mm_sh a).1 ≤ 4 := Nat.le_of_ble_eq_true g3
    have ha0 : 0 < a := Nat.pos_of_ne_zero fun z => by
      subst z
      have : (mm_sh 0).1 = 9 := by decide +kernel
      omega
    show W p l e R s mid args below meth c H locs cells slots Q (F0 mid pc sl (mm_rv bs a :: r.map (mm_cv xv bs)))
    rw [mm_rv_pos ha0]
    rcases (show (mm_sh a).1 = 1 ∨ (mm_sh a).1 = 2 ∨ (mm_sh a).1 = 3 ∨ (mm_sh a).1 = 4 by omega) with g | g | g | g
    · exact va_alen hx hb hK hP (a - 1) 0 (x := (mm_len a, .inl (h.2.1 a))) (by rw [mm_ws_get bs cs h ha0 g1, mm_cell_I (Prod.ext g rfl) (Or.inl rfl)]; rfl) rfl rfl hdg (kk sl H locs Dy)
    · exact va_alen hx hb hK hP (a - 1) 1 (x := (mm_len a, .inl (h.2.1 a))) (by rw [mm_ws_get bs cs h ha0 g1, mm_cell_I (Prod.ext g rfl) (Or.inr (Or.inl rfl))]; rfl) rfl rfl hdg (kk sl H locs Dy)
    · exact va_alen hx hb hK hP (a - 1) 2 (x := (mm_len a, .inl (h.2.1 a))) (by rw [mm_ws_get bs cs h ha0 g1, mm_cell_I (Prod.ext g rfl) (Or.inr (Or.inr rfl))]; rfl) rfl rfl hdg (kk sl H locs Dy)
    · exact va_alen hx hb hK hP (a - 1) 3 (x := (mm_len a, .inr (.inl (h.2.2.1 a)))) (by rw [mm_ws_get bs cs h ha0 g1, mm_cell_J (Prod.ext g rfl)]; rfl) rfl rfl hdg (kk sl H locs Dy)
  · next a r =>
    obtain ⟨adK, adV, hSt, hR1, hR2, x1, x2, x3, x4, hZ1, hZ2⟩ := hext
    split at hd
    · next n hn =>
      obtain ⟨rfl, rfl, rfl, rfl⟩ := mm_nx_inj hd
      unfold mm_xlen at hn
      split at hn
      · split at hn
        · next x =>
          cases hn
          obtain ⟨b, hb0, hX, hbb⟩ := hscr
          have goal := va_slen (p := p) (l := l) (e := e) (R := R) (below := below) (meth := meth) (locs := locs) (cells := cells) (slots := slots) (Q := Q) (ls := sl) (rest := r.map (mm_cv xv bs)) hx hb hX (Nat.lt_of_le_of_lt hbb hbs) (show ¬ bs < b by omega) hS hdg (kk sl H locs Dy)
          rw [← hb0] at goal
          exact goal
        · cases hn
      · cases hn
        have goal := va_tlen (p := p) (l := l) (e := e) (R := R) (below := below) (meth := meth) (locs := locs) (cells := cells) (slots := slots) (Q := Q) (ls := sl) (rest := r.map (mm_cv xv bs)) hx hb (hSt.1 0 (by omega)).2.2.2 hS rfl hdg (kk sl H locs Dy)
        rw [← x3] at goal
        exact goal
      · cases hn
        have goal := va_tlen (p := p) (l := l) (e := e) (R := R) (below := below) (meth := meth) (locs := locs) (cells := cells) (slots := slots) (Q := Q) (ls := sl) (rest := r.map (mm_cv xv bs)) hx hb (hSt.1 1 (by omega)).2.2.2 hS rfl hdg (kk sl H locs Dy)
        rw [← x4] at goal
        exact goal
      · cases hn
    · cases hd
  · cases hd
end MMS3
