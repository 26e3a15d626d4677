section MMS5
variable {p : Program} {l : Launch} {e : Env} {R : Room} {s : State} {mid : MethodId} {args : Array Value} {below : List Frame} {meth : Method} {c : Code} {H : Heap} {locs : List Loc} {cells slots : Nat} {Q : State → Prop}
variable {m bs : Nat} {cs : Nat → ClassId} {xv : Nat → Value} {X : mm_X} {D : va_G} {pc len pc' : Nat} {i : Instr} {ls ls' : List (Option Value)} {st st' : List Value} {h h' : mm_H} {sl : Array Slot}
/-- how many slots the cell number a has; those of the cells below n together -/
def mm_sz (a : Nat) : Nat := cond (Nat.beq (mm_sh a).1 0) (mm_fn.getD (mm_sh a).2 0) (mm_sh a).2
def mm_S (n : Nat) : Nat := match n with
  | 0 => 0
  | n + 1 => mm_S n + mm_sz n
theorem mm_S_le {a b : Nat} (h : a ≤ b) : mm_S a ≤ mm_S b := by
  induction h with
  | refl => exact Nat.le_refl _
  | step _ ih => exact Nat.le_trans ih (by rw [mm_S]; omega)
theorem mm_cl_word {own k ci : Nat} (hk : k < 2000) (h : mm_lk mm_cl (own * 2000 + k) = some ci) : Cond.classLink (mm_on own) k (mm_on ci) ∈ mm_TT ∧ ci < 13 ∧ Cond.instantiable (mm_on ci) (mm_fn.getD ci 0) ∈ mm_TT ∧ Cond.initialized (mm_on ci) ∈ mm_TT := by
  have h0 : (mm_lv mm_cl).all (fun x => mm_clP.any (fun e => Nat.beq e.1 x.1 && Nat.beq e.2.1 x.2) && Nat.blt x.2 13 && mm_isP.any (fun e => Nat.beq e.1 x.2) && mm_inP.any (fun e => Nat.beq e.1 x.2)) = true := by decide +kernel
  have h1 := List.all_eq_true.mp h0 _ (mm_lk_spec h)
  simp only [Bool.and_eq_true] at h1
  obtain ⟨⟨⟨h1, h2⟩, h3⟩, h4⟩ := h1
  obtain ⟨e1, he1, g1⟩ := List.any_eq_true.mp h1
  obtain ⟨e3, he3, g3⟩ := List.any_eq_true.mp h3
  obtain ⟨e4, he4, g4⟩ := List.any_eq_true.mp h4
  simp only [Bool.and_eq_true, Nat.beq_eq] at g1 g3 g4
  have w1 := mm_chk_in (mm_clP_ok e1 he1)
  have w3 := mm_chk_in (mm_isP_ok e3 he3)
  have w4 := mm_chk_in (mm_inP_ok e4 he4)
  unfold mm_clw at w1
  unfold mm_isw at w3
  unfold mm_inw at w4
  rw [g1.1, g1.2] at w1
  rw [g3] at w3
  rw [g4] at w4
  simp only at w1 w3 w4
  rw [show (own * 2000 + k) / 2000 = own by omega, show (own * 2000 + k) % 2000 = k by omega] at w1
  exact ⟨w1, Nat.le_of_ble_eq_true h2, w3, w4⟩
theorem mm_new_inv {pc len pc' : Nat} {sh : Nat × Nat} (e : mm_new pc len ls st h sh = some (.inl ((pc', ls', st'), h'))) : 0 < h.1 ∧ mm_sh h.1 = sh ∧ pc + len = pc' ∧ ls = ls' ∧ .ref h.1 :: st = st' ∧ (h.1 + 1, mm_row h.2.1 h.1 (fun _ => 0), mm_row h.2.2.1 h.1 (fun _ => 0), mm_row h.2.2.2 h.1 (fun _ => 0)) = h' := by
  unfold mm_new at e
  obtain ⟨g, e⟩ := mm_cond_inv e
  simp only [Bool.and_eq_true, Nat.beq_eq] at g
  obtain ⟨⟨⟨g1, g2⟩, g3⟩, g4⟩ := g
  exact ⟨Nat.le_of_ble_eq_true g1, Prod.ext g3 g4, mm_nx_inj e⟩
/-- the heap with one more cell, all of it zero -/
def mm_zh (h : mm_H) : mm_H := (h.1 + 1, mm_row h.2.1 h.1 (fun _ => 0), mm_row h.2.2.1 h.1 (fun _ => 0), mm_row h.2.2.2 h.1 (fun _ => 0))
theorem mm_zh_old {bs : Nat} {cs : Nat → ClassId} {h : mm_H} {b : Nat} (hb : b < h.1) : mm_cell bs cs (mm_zh h) b = mm_cell bs cs h b :=
  mm_cell_cong (mm_row_ne (by omega)) (mm_row_ne (by omega)) (mm_row_ne (by omega))
theorem mm_len_le (a : Nat) : (mm_sh a).2 ≤ 1600 := by
  have h2 : (mm_lv mm_shp).all (fun x => Nat.ble x.2 1600) = true := by decide +kernel
  exact Nat.le_of_ble_eq_true (List.all_eq_true.mp h2 _ (mm_lv_get mm_shp a))
theorem mm_sim_new (C : mm_Ctx p s mid args meth c m bs cs xv X D) {k ci : Nat} (hk : k < 2000) (hdg : decode (mm_b m) pc = .ok (.new k, 3)) (hlk : mm_lk mm_cl (mm_own m * 2000 + k) = some ci) (hd : mm_new pc 3 ls st h (0, ci) = some (.inl ((pc', ls', st'), h'))) (Dy : mm_Dyn s m bs cs xv D ls h sl H locs) (hr1 : cells + 1 ≤ R.cells) (hr2 : slots + mm_sz h.1 ≤ R.slots)
    (kk : ∀ sl' H' locs', mm_Dyn s m bs cs xv D ls' h' sl' H' locs' → W p l e R s mid args below meth c H' locs' (cells + 1) (slots + mm_sz h.1) Q (F0 mid pc' sl' (st'.map (mm_cv xv bs)))) : W p l e R s mid args below meth c H locs cells slots Q (F0 mid pc sl (st.map (mm_cv xv bs))) := by
  obtain ⟨hx, hb, hml, hown, hts, hnw, hK, hbs, hm, hini, hxc, hxr, hext, hscr⟩ := C
  obtain ⟨hsz, h0, hP, hS, hl⟩ := id Dy
  obtain ⟨-, hsh, rfl, rfl, rfl, rfl⟩ := mm_new_inv hd
  obtain ⟨w1, hc13, w2, w3⟩ := mm_cl_word hk hlk
  obtain ⟨q, ty, hq, hqn, hqc, hqw, hqt, hqm, hqf⟩ := mm_vw ci hc13
  have hsz2 : mm_sz h.1 = q.2.2 := by unfold mm_sz; rw [hsh, hqn]; rfl
  have hfs : ∀ j, j < q.2.2 → defaultValue (ty j) = vp_V (mm_fs bs (mm_zh h) ci h.1) j := by
    intro j hj
    have hj2 : j < mm_fn.getD ci 0 := by rw [← hqn]; exact hj
    have hf := hqf j hj
    unfold mm_fok at hf
    unfold vp_V
    rw [List.getD_eq_getElem?_getD, mm_fs_get hj2, Option.getD_some]
    unfold mm_fv
    split at hf
    · next kd fin hfk =>
      rw [hfk]
      simp only [Bool.and_eq_true] at hf
      have hkt := hf.1.1
      have e1 : (mm_zh h).2.1 h.1 j = 0 := by simp [mm_zh, mm_row]
      have e2 : (mm_zh h).2.2.1 h.1 j = 0 := by simp [mm_zh, mm_row]
      have e3 : (mm_zh h).2.2.2 h.1 j = 0 := by simp [mm_zh, mm_row]
      rw [e1, e2, e3]
      unfold mm_kt at hkt
      split at hkt
      · next hty => rw [hty]; rfl
      · next hty => rw [hty]; rfl
      · next hty => rw [hty]; rfl
      · next hty => rw [hty]; rfl
      · next hty => rw [hty]; rfl
      · cases hkt
    · cases hf
  rw [hsz2] at hr2 kk
  have hH : H.size = bs + h.1 := hsz
  have goal := mm_newo (p := p) (l := l) (e := e) (R := R) (below := below) (meth := meth) (locs := locs) (cells := cells) (slots := slots) (Q := Q) (ls := sl) (rest := st.map (mm_cv xv bs)) (C := q.1) (T := q.2.1) (N := q.2.2) hx hb hts hqw ty hqt hown (by rw [hqc]; exact hts _ w1) (by rw [hqc, hqn]; exact hts _ w2) (by rw [hqc]; exact hts _ w3) hK hP hS hq hfs hr1 hr2 hdg
    (fun H1 z1 z2 z3 => by
      rw [hH] at z1 z2 ⊢
      rw [mm_ws_push (h' := mm_zh h) rfl h0 (fun b hb => mm_zh_old hb) (mm_cell_O hsh)] at z2
      have := kk sl H1 locs ⟨by rw [z1]; show bs + h.1 + 1 = bs + (h.1 + 1); omega, Nat.succ_pos _, z2, z3, hl⟩
      rw [← mm_rv_pos h0]
      exact this)
  exact goal
theorem mm_sim_newa (C : mm_Ctx p s mid args meth c m bs cs xv X D) {aty : ArrayType} {n : Int32} {r : List Value} (hdg : decode (mm_b m) pc = .ok (.newarray aty, 2)) (hn : ¬ n < 0) {kd t0 : Nat} {ty : FieldType} (hty : newarray.typeOf aty = ty) (hw : Cond.arrayClass ty ∈ mm_TT) (ht0 : (mm_tys cs)[t0]? = some (cs kd, ty)) (hkd : mm_sz h.1 = (mm_sh h.1).2) (a0 : Nat → vp_A) (ha : ∀ (cA : ClassId) (N : Nat), vp_cell cA (a0 N) = arrV cA N (fun _ => defaultValue ty)) (hcell : mm_sh h.1 = (kd, n.toNatClampNeg) → mm_cell bs cs (mm_zh h) h.1 = .inl (cs kd, a0 n.toNatClampNeg)) (hcb : componentBytes ty ≤ 8) (hd : mm_new pc 2 ls r h (kd, n.toNatClampNeg) = some (.inl ((pc', ls', st'), h'))) (Dy : mm_Dyn s m bs cs xv D ls h sl H locs) (hr1 : cells + 1 ≤ R.cells) (hr2 : slots + mm_sz h.1 ≤ R.slots)
    (kk : ∀ sl' H' locs', mm_Dyn s m bs cs xv D ls' h' sl' H' locs' → W p l e R s mid args below meth c H' locs' (cells + 1) (slots + mm_sz h.1) Q (F0 mid pc' sl' (st'.map (mm_cv xv bs)))) : W p l e R s mid args below meth c H locs cells slots Q (F0 mid pc sl (List.map (mm_cv xv bs) (.int n :: r))) := by
  obtain ⟨hx, hb, hml, hown, hts, hnw, hK, hbs, hm, hini, hxc, hxr, hext, hscr⟩ := C
  obtain ⟨hsz, h0, hP, hS, hl⟩ := id Dy
  obtain ⟨-, hsh, rfl, rfl, rfl, rfl⟩ := mm_new_inv hd
  have hN : (mm_sh h.1).2 = n.toNatClampNeg := by rw [hsh]
  rw [hkd, hN] at hr2 kk
  have hle := mm_len_le h.1
  rw [hN] at hle
  have hH : H.size = bs + h.1 := hsz
  have goal := mm_newa (p := p) (l := l) (e := e) (R := R) (below := below) (meth := meth) (locs := locs) (cells := cells) (slots := slots) (Q := Q) (ls := sl) (rest := r.map (mm_cv xv bs)) hx hb (by rw [hty]; exact hts _ hw) hty hK ht0 hP hS (n := n) (N' := n.toNatClampNeg) (a0 := a0 n.toNatClampNeg) (fun cA => ha cA _) hn rfl (Nat.le_trans (Nat.mul_le_mul hle hcb) (by decide)) hr1 hr2 hdg
    (fun H1 z1 z2 z3 => by
      rw [hH] at z1 z2 ⊢
      rw [mm_ws_push (h' := mm_zh h) rfl h0 (fun b hb => mm_zh_old hb) (hcell hsh)] at z2
      have := kk sl H1 locs ⟨by rw [z1]; show bs + h.1 + 1 = bs + (h.1 + 1); omega, Nat.succ_pos _, z2, z3, hl⟩
      rw [← mm_rv_pos h0]
      exact this)
  exact goal
/-- a step that makes a cell -/
theorem mm_simN (C : mm_Ctx p s mid args meth c m bs cs xv X D) (hat : mm_at m pc = some (len, i)) (hd : mm_do X m i pc ls st h = some (.inl ((pc', ls', st'), h'))) (hi : (∃ k, i = .new k) ∨ ∃ ty, i = .newarray ty) (Dy : mm_Dyn s m bs cs xv D ls h sl H locs) (hr1 : cells + 1 ≤ R.cells) (hr2 : slots + mm_sz h.1 ≤ R.slots)
    (kk : ∀ sl' H' locs', mm_Dyn s m bs cs xv D ls' h' sl' H' locs' → W p l e R s mid args below meth c H' locs' (cells + 1) (slots + mm_sz h.1) Q (F0 mid pc' sl' (st'.map (mm_cv xv bs)))) : W p l e R s mid args below meth c H locs cells slots Q (F0 mid pc sl (st.map (mm_cv xv bs))) := by
  obtain ⟨hdec, hlen, hix⟩ := mm_at_ok C.2.2.2.2.2.2.2.2.1 hat
  rcases hi with ⟨k, rfl⟩ | ⟨ty, rfl⟩
  · have hl3 : len = 3 := by rcases hlen with g | g; cases g; exact g
    subst hl3
    simp only [mm_do] at hd
    split at hd
    · next ci hlk => exact mm_sim_new C (Nat.le_of_ble_eq_true hix) hdec hlk hd Dy hr1 hr2 kk
    · cases hd
  · have hl2 : len = 2 := by rcases hlen with g | g; cases g; exact g
    subst hl2
    simp only [mm_do] at hd
    split at hd
    · next n r =>
      by_cases hn : n < 0
      · rw [if_pos hn] at hd; cases hd
      · rw [if_neg hn] at hd
        have hsz : ∀ kd N, kd ≠ 0 → mm_new pc 2 ls r h (kd, N) = some (.inl ((pc', ls', st'), h')) → mm_sz h.1 = (mm_sh h.1).2 := by
          intro kd N hk hd
          obtain ⟨-, hsh, -⟩ := mm_new_inv hd
          unfold mm_sz
          have : Nat.beq (mm_sh h.1).1 0 = false := by
            rw [hsh]
            cases hz : Nat.beq kd 0 with
            | false => rfl
            | true => exact absurd (Nat.eq_of_beq_eq_true hz) hk
          rw [this]; rfl
        have hrow1 : (mm_zh h).2.1 h.1 = fun _ => 0 := mm_row_eq
        have hrow2 : (mm_zh h).2.2.1 h.1 = fun _ => 0 := mm_row_eq
        split at hd
        · exact mm_sim_newa C hdec hn rfl mm_ac_int (t0 := 0) rfl (hsz 1 _ (by decide) hd) (fun N => (N, .inl (fun _ => 0))) (fun _ _ => rfl) (fun hsh => by rw [mm_cell_I hsh (Or.inl rfl), hrow1]) (by decide) hd Dy hr1 hr2 kk
        · exact mm_sim_newa C hdec hn rfl mm_ac_byte (t0 := 1) rfl (hsz 2 _ (by decide) hd) (fun N => (N, .inl (fun _ => 0))) (fun _ _ => rfl) (fun hsh => by rw [mm_cell_I hsh (Or.inr (Or.inl rfl)), hrow1]) (by decide) hd Dy hr1 hr2 kk
        · exact mm_sim_newa C hdec hn rfl mm_ac_boolean (t0 := 2) rfl (hsz 3 _ (by decide) hd) (fun N => (N, .inl (fun _ => 0))) (fun _ _ => rfl) (fun hsh => by rw [mm_cell_I hsh (Or.inr (Or.inr rfl)), hrow1]) (by decide) hd Dy hr1 hr2 kk
        · exact mm_sim_newa C hdec hn rfl mm_ac_long (t0 := 3) rfl (hsz 4 _ (by decide) hd) (fun N => (N, .inr (.inl (fun _ => 0)))) (fun _ _ => rfl) (fun hsh => by rw [mm_cell_J hsh, hrow2]) (by decide) hd Dy hr1 hr2 kk
        · cases hd
    · cases hd
theorem mm_copyi (hexec : p.tables.exec = Jvm.exec) {cc : ByteArray} (hb : c.code = cc) (hml : c.maxLocals = sl.size) {own : String} {index : Nat} (hown : s.vm.findClass own = some mid.cls) (hlink : (Cond.methodLink own index arraycopyName).before args s = true) (hnat : (Cond.native arraycopyName).before args s = true) (hstat : (Cond.static arraycopyName).before args s = true) (hini : (Cond.initialized "java/lang/System").before args s = true)
    {cl : List vw_C} {tys : List (ClassId × FieldType)} {ws : va_W} {A : Nat → Prop} {H0 : Heap} (hK : va_K D cl tys s) (hP : va_P D cl ws H) (hD : va_D A ws) (hS : va_S A H0 H locs) (q0 q1 t0 t1 : Nat) {a a0 : Nat} {c0 c1 : ClassId} {n0 n1 : Nat} {f g : Nat → Int32} (ha0 : ws[q0]? = some (a0, .inl (c0, n0, .inl f))) (ha1 : ws[q1]? = some (a, .inl (c1, n1, .inl g))) (ht0 : tys[t0]? = some (c0, .int)) (ht1 : tys[t1]? = some (c1, .int))
    {sp dp n : Int32} (h1 : ¬ sp < 0) (h2 : ¬ dp < 0) (h3 : ¬ n < 0) (h4 : sp.toNatClampNeg + n.toNatClampNeg ≤ n0) (h5 : dp.toNatClampNeg + n.toNatClampNeg ≤ n1) {rest : List Value}
    (hframes : 1 ≤ R.frames) (hlocals : (rest.map fun v => v.category).sum + (nativeFrameWords "java/lang/System" "arraycopy" 5 + 11) ≤ R.locals) (hdg : decode cc pc = .ok (.invokestatic index, 3))
    (kk : ∀ (H1 : Heap) (locs1 : List Loc), H1.size = H.size → va_P D cl (ws.set q1 (a, .inl (c1, n1, .inl (va_cpy f g sp.toNatClampNeg dp.toNatClampNeg n.toNatClampNeg)))) H1 → va_S A H0 H1 locs1 → W p l e R s mid args below meth c H1 locs1 cells slots Q (F0 mid (pc + 3) sl rest)) : W p l e R s mid args below meth c H locs cells slots Q (F0 mid pc sl (.int n :: .int dp :: .ref a :: .int sp :: .ref a0 :: rest)) := by
  have nn : ∀ z : Int32, ¬ z < 0 → z.toInt = (z.toNatClampNeg : Int) := by
    intro z hz
    have hz0 : (0 : Int) ≤ z.toInt := by
      have := Int32.not_lt.mp hz
      simpa using Int32.le_iff_toInt_le.mp this
    show z.toInt = ((z.toInt.toNat : Nat) : Int)
    omega
  intro T hT X
  have hc0 : H[a0]? = some (vp_cell c0 (n0, .inl f)) := hP q0 _ ha0
  have hc1 : H[a]? = some (vp_cell c1 (n1, .inl g)) := hP q1 _ ha1
  obtain ⟨-, k0, hk0, cm0, hkk0⟩ := (hK.2 t0 _ ht0).1 n0 (fun j => .int (f j))
  obtain ⟨-, k1, hk1, cm1, hkk1⟩ := (hK.2 t1 _ ht1).1 n1 (fun j => .int (g j))
  obtain ⟨vm', X', step⟩ := X.arraycopy hexec hown hlink hnat hstat hini (src := a0) (dst := a) (cs := vp_cell c0 (n0, .inl f)) (cd := vp_cell c1 (n1, .inl g)) (srcPos := sp) (destPos := dp) (n := n) (by rw [hT]; exact hc0) (by rw [hT]; exact hc1)
    (fun _ h => by cases h) (fun _ h => by cases h) (fun h => by cases h) (fun h => by cases h) hk0 hk1 hkk0 hkk1 (by simp [refKind]) h1 h2 h3
    (by rw [nn sp h1, nn n h3]; show ¬ _ > ((arrV c0 n0 (fun j => .int (f j))).slots.size : Int); rw [arrV_size]; omega)
    (by rw [nn dp h2, nn n h3]; show ¬ _ > ((arrV c1 n1 (fun j => .int (g j))).slots.size : Int); rw [arrV_size]; omega)
    (fun vm₁ _ i hi => by
      have e : (vp_cell c0 (n0, .inl f)).slots.getD (sp.toNatClampNeg + i) .null = .int (f (sp.toNatClampNeg + i)) := by
        show (arrV c0 n0 (fun j => .int (f j))).slots.getD _ _ = _
        rw [Array.getD_eq_getD_getElem?, arrV_read _ _ (by omega)]
        rfl
      rw [e]
      exact ⟨rfl, trivial⟩)
    (g := F0 mid pc sl (.int n :: .int dp :: .ref a :: .int sp :: .ref a0 :: rest)) rfl (by rw [hml]) (rest := rest) rfl (by rw [hb]; exact hdg) hframes (by show 2 * 0 + _ + _ ≤ _; omega)
  have e1 : copied (vp_cell c0 (n0, .inl f)) (vp_cell c1 (n1, .inl g)) sp dp n = vp_cell c1 (n1, .inl (va_cpy f g sp.toNatClampNeg dp.toNatClampNeg n.toNatClampNeg)) := va_copied (fun z => .int z) c0 c1 f g h4
  rw [e1] at X' step
  have hl : a < H.size := (Array.getElem?_eq_some_iff.mp hc1).1
  have hheap : ((T.setVm vm').setCell a (vp_cell c1 (n1, .inl (va_cpy f g sp.toNatClampNeg dp.toNatClampNeg n.toNatClampNeg)))).heap = H.setIfInBounds a (vp_cell c1 (n1, .inl (va_cpy f g sp.toNatClampNeg dp.toNatClampNeg n.toNatClampNeg))) := by rw [← hT]; rfl
  have oq : ∀ q : Nat, q ≠ a → (H.setIfInBounds a (vp_cell c1 (n1, .inl (va_cpy f g sp.toNatClampNeg dp.toNatClampNeg n.toNatClampNeg))))[q]? = H[q]? := fun q hq => by simp [Array.getElem?_setIfInBounds, Ne.symm hq]
  obtain ⟨t, a1, b1⟩ := kk _ _ (by simp) (hP.set hD ha1 (show (H.setIfInBounds a _)[a]? = some _ by simp [Array.getElem?_setIfInBounds, hl]) oq) ⟨by simp; exact hS.1, fun q g1 g2 => by
      rw [oq q (fun e => g2 (by rw [e]; exact hD.2 q1 _ ha1))]
      exact hS.2.1 q g1 g2, fun q hq => by
      rcases List.mem_append.mp hq with h | h
      · exact hS.2.2 q h
      · obtain ⟨z, -, hz⟩ := List.mem_map.mp h
        rw [← hz]
        exact hD.2 q1 _ ha1⟩ _ hheap X'
  exact ⟨t, step t a1, b1⟩
end MMS5
