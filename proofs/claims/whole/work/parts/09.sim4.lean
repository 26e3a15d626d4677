section MMS4
variable {p : Program} {l : Launch} {e : Env} {R : Room} {s : State} {mid : MethodId} {args : Array Value} {below : List Frame} {meth : Method} {c : Code} {H : Heap} {locs : List Loc} {cells slots : Nat} {Q : State → Prop}
variable {m bs : Nat} {cs : Nat → ClassId} {xv : Nat → Value} {X : mm_X} {D : va_G} {pc len pc' : Nat} {i : Instr} {ls ls' : List (Option Value)} {st st' : List Value} {h h' : mm_H} {sl : Array Slot}
theorem mm_ci_word {own k : Nat} {v : Int32} (hk : k < 2000) (h : mm_lk mm_ci (own * 2000 + k) = some v) : Cond.constant (mm_on own) k v ∈ mm_TT := by
  have h0 : (mm_lv mm_ci).all (fun x => mm_ciP.any (fun e => Nat.beq e.1 x.1 && decide (e.2.1 = x.2))) = true := by decide +kernel
  obtain ⟨e, he, h2⟩ := List.any_eq_true.mp (List.all_eq_true.mp h0 _ (mm_lk_spec h))
  simp only [Bool.and_eq_true, Nat.beq_eq, decide_eq_true_eq] at h2
  have h3 := mm_chk_in (mm_ciP_ok e he)
  unfold mm_ciw at h3
  rw [h2.1, h2.2] at h3
  simp only at h3
  rw [show (own * 2000 + k) / 2000 = own by omega, show (own * 2000 + k) % 2000 = k by omega] at h3
  exact h3
theorem mm_cj_word {own k : Nat} {v : Int64} (hk : k < 2000) (h : mm_lk mm_cj (own * 2000 + k) = some v) : Cond.constantLong (mm_on own) k v ∈ mm_TT := by
  have h0 : (mm_lv mm_cj).all (fun x => mm_cjP.any (fun e => Nat.beq e.1 x.1 && decide (e.2.1 = x.2))) = true := by decide +kernel
  obtain ⟨e, he, h2⟩ := List.any_eq_true.mp (List.all_eq_true.mp h0 _ (mm_lk_spec h))
  simp only [Bool.and_eq_true, Nat.beq_eq, decide_eq_true_eq] at h2
  have h3 := mm_chk_in (mm_cjP_ok e he)
  unfold mm_cjw at h3
  rw [h2.1, h2.2] at h3
  simp only at h3
  rw [show (own * 2000 + k) / 2000 = own by omega, show (own * 2000 + k) % 2000 = k by omega] at h3
  exact h3
set_option maxHeartbeats 4000000 in
theorem mm_sim1 (C : mm_Ctx p s mid args meth c m bs cs xv X D) (hat : mm_at m pc = some (len, i)) (hd : mm_do X m i pc ls st h = some (.inl ((pc', ls', st'), h'))) (hn : h'.1 = h.1) (hni : ∀ k, i ≠ .invokestatic k) (Dy : mm_Dyn s m bs cs xv D ls h sl H locs)
    (kk : ∀ sl' H' locs', mm_Dyn s m bs cs xv D ls' h' sl' H' locs' → W p l e R s mid args below meth c H' locs' cells slots Q (F0 mid pc' sl' (st'.map (mm_cv xv bs)))) : W p l e R s mid args below meth c H locs cells slots Q (F0 mid pc sl (st.map (mm_cv xv bs))) := by
  have C0 := C
  obtain ⟨hx, hb, hml, hown, hts, hnw, hK, hbs, hm, hini, hxc, hxr, hext, hscr⟩ := C
  have Dy0 := Dy
  obtain ⟨hsz, h0, hP, hS, hl⟩ := Dy
  obtain ⟨hdec, hlen, hix⟩ := mm_at_ok hm hat
  have hdg : mm_sw i = false → decode (mm_b m) pc = .ok (i, mm_ln i) := by
    intro hs
    rcases hlen with g | g
    · rw [hs] at g; cases g
    · rw [← g]; exact hdec
  have DyL : ∀ ls2 sl2, lv_has sl2 (mm_maxL m) (mm_lvl xv bs ls2) → mm_Dyn s m bs cs xv D ls2 h sl2 H locs := fun ls2 sl2 z => ⟨hsz, h0, hP, hS, z⟩
  cases i
  case aload n =>
    obtain ⟨v, hv, rfl, rfl, rfl, rfl⟩ := mm_pu_inv hd
    obtain ⟨g1, g2⟩ := mm_gA_inv hv
    exact mm_aload hx hb (mm_cv_A hxr g2) (hdg rfl) (mm_lvl_read hl g1) (kk sl H locs Dy0)
  case aload_n n =>
    obtain ⟨v, hv, rfl, rfl, rfl, rfl⟩ := mm_pu_inv hd
    obtain ⟨g1, g2⟩ := mm_gA_inv hv
    exact mm_aload_n hx hb (mm_cv_A hxr g2) (hdg rfl) (mm_lvl_read hl g1) (kk sl H locs Dy0)
  case iload n =>
    obtain ⟨v, hv, rfl, rfl, rfl, rfl⟩ := mm_pu_inv hd
    obtain ⟨x, g1, rfl⟩ := mm_gI_inv hv
    exact lv_iload hx hb (hdg rfl) (mm_lvl_read hl g1) (kk sl H locs Dy0)
  case iload_n n =>
    obtain ⟨v, hv, rfl, rfl, rfl, rfl⟩ := mm_pu_inv hd
    obtain ⟨x, g1, rfl⟩ := mm_gI_inv hv
    exact lv_iload_n hx hb (hdg rfl) rfl (mm_lvl_read hl g1) (kk sl H locs Dy0)
  case lload n =>
    obtain ⟨v, hv, rfl, rfl, rfl, rfl⟩ := mm_pu_inv hd
    obtain ⟨x, g1, rfl⟩ := mm_gL_inv hv
    exact lv_lload hx hb (hdg rfl) (mm_lvl_read hl g1) (kk sl H locs Dy0)
  case lload_n n =>
    obtain ⟨v, hv, rfl, rfl, rfl, rfl⟩ := mm_pu_inv hd
    obtain ⟨x, g1, rfl⟩ := mm_gL_inv hv
    exact lv_lload_n hx hb (hdg rfl) rfl (mm_lvl_read hl g1) (kk sl H locs Dy0)
  case istore n =>
    simp only [mm_do] at hd
    split at hd
    · obtain ⟨g1, hd⟩ := mm_cond_inv hd
      obtain ⟨rfl, rfl, rfl, rfl⟩ := mm_nx_inj hd
      exact lv_istore hx hb (hdg rfl) hl (Nat.le_of_ble_eq_true g1) rfl (fun sl2 z => kk sl2 H locs (DyL _ sl2 (mm_lv_st1 hxc z)))
    · cases hd
  case istore_n n =>
    simp only [mm_do] at hd
    split at hd
    · obtain ⟨g1, hd⟩ := mm_cond_inv hd
      obtain ⟨rfl, rfl, rfl, rfl⟩ := mm_nx_inj hd
      exact lv_istore_n hx hb (hdg rfl) rfl hl (Nat.le_of_ble_eq_true g1) rfl (fun sl2 z => kk sl2 H locs (DyL _ sl2 (mm_lv_st1 hxc z)))
    · cases hd
  case astore n =>
    simp only [mm_do] at hd
    split at hd
    · next v hv =>
      obtain ⟨g1, hd⟩ := mm_cond_inv hd
      obtain ⟨rfl, rfl, rfl, rfl⟩ := mm_nx_inj hd
      obtain ⟨g2, g3⟩ := mm_gA_inv hv
      cases st with
      | nil => cases g2
      | cons w r =>
        have : w = v := by simpa using g2
        subst this
        exact mm_astore hx hb (mm_cv_A hxr g3) (hdg rfl) hl (Nat.le_of_ble_eq_true g1) (fun sl2 z => kk sl2 H locs (DyL _ sl2 (mm_lv_st1 hxc z)))
    · cases hd
  case astore_n n =>
    simp only [mm_do] at hd
    split at hd
    · next v hv =>
      obtain ⟨g1, hd⟩ := mm_cond_inv hd
      obtain ⟨rfl, rfl, rfl, rfl⟩ := mm_nx_inj hd
      obtain ⟨g2, g3⟩ := mm_gA_inv hv
      cases st with
      | nil => cases g2
      | cons w r =>
        have : w = v := by simpa using g2
        subst this
        exact mm_astore_n hx hb (mm_cv_A hxr g3) (hdg rfl) hl (Nat.le_of_ble_eq_true g1) (fun sl2 z => kk sl2 H locs (DyL _ sl2 (mm_lv_st1 hxc z)))
    · cases hd
  case lstore n =>
    simp only [mm_do] at hd
    split at hd
    · obtain ⟨g1, hd⟩ := mm_cond_inv hd
      obtain ⟨rfl, rfl, rfl, rfl⟩ := mm_nx_inj hd
      exact lv_lstore hx hb (hdg rfl) hl (Nat.le_of_ble_eq_true g1) rfl (fun sl2 z => kk sl2 H locs (DyL _ sl2 (mm_lv_st2 hxc z)))
    · cases hd
  case lstore_n n =>
    simp only [mm_do] at hd
    split at hd
    · obtain ⟨g1, hd⟩ := mm_cond_inv hd
      obtain ⟨rfl, rfl, rfl, rfl⟩ := mm_nx_inj hd
      exact lv_lstore_n hx hb (hdg rfl) rfl hl (Nat.le_of_ble_eq_true g1) rfl (fun sl2 z => kk sl2 H locs (DyL _ sl2 (mm_lv_st2 hxc z)))
    · cases hd
  case iconst n =>
    obtain ⟨rfl, rfl, rfl, rfl⟩ := mm_nx_inj hd
    exact lv_iconst hx hb (hdg rfl) rfl (kk sl H locs Dy0)
  case bipush n =>
    obtain ⟨rfl, rfl, rfl, rfl⟩ := mm_nx_inj hd
    exact lv_bipush hx hb (hdg rfl) rfl (kk sl H locs Dy0)
  case sipush n =>
    obtain ⟨rfl, rfl, rfl, rfl⟩ := mm_nx_inj hd
    exact lv_sipush hx hb (hdg rfl) rfl (kk sl H locs Dy0)
  case lconst n =>
    obtain ⟨rfl, rfl, rfl, rfl⟩ := mm_nx_inj hd
    exact lv_lconst hx hb (hdg rfl) rfl (kk sl H locs Dy0)
  case ldc k =>
    have hk : k < 2000 := Nat.le_of_ble_eq_true hix
    simp only [mm_do] at hd
    split at hd
    · next q hq =>
      obtain ⟨rfl, rfl, rfl, rfl⟩ := mm_nx_inj hd
      obtain ⟨adK, adV, hSt, hR1, hR2, x1, x2, x3, x4, hZ1, hZ2⟩ := hext
      have hw : mm_own m = 4 ∧ ((k = 23 ∧ q = 1) ∨ (k = 103 ∧ q = 2)) := by
        have h3 : (mm_lv mm_cs).all (fun x => (Nat.beq x.1 8023 && Nat.beq x.2 1) || (Nat.beq x.1 8103 && Nat.beq x.2 2)) = true := by decide +kernel
        have h4 := List.all_eq_true.mp h3 _ (mm_lk_spec hq)
        simp only [Bool.or_eq_true, Bool.and_eq_true, Nat.beq_eq] at h4
        omega
      rw [hw.1] at hown
      rcases hw.2 with ⟨rfl, rfl⟩ | ⟨rfl, rfl⟩
      · refine va_ldcS hx hb hown hR1 (hdg rfl) ?_
        rw [← x1]; exact kk sl H locs Dy0
      · refine va_ldcS hx hb hown hR2 (hdg rfl) ?_
        rw [← x2]; exact kk sl H locs Dy0
    · obtain ⟨v, hv, rfl, rfl, rfl, rfl⟩ := mm_pu_inv hd
      obtain ⟨x, hx2, rfl⟩ := Option.map_eq_some_iff.mp hv
      exact lv_ldc hx hb hown (hts _ (mm_ci_word hk hx2)) (hdg rfl) (kk sl H locs Dy0)
  case ldc_w k =>
    obtain ⟨v, hv, rfl, rfl, rfl, rfl⟩ := mm_pu_inv hd
    obtain ⟨x, hx2, rfl⟩ := Option.map_eq_some_iff.mp hv
    exact lv_ldcw hx hb hown (hts _ (mm_ci_word (Nat.le_of_ble_eq_true hix) hx2)) (hdg rfl) (kk sl H locs Dy0)
  case ldc2_w k =>
    obtain ⟨v, hv, rfl, rfl, rfl, rfl⟩ := mm_pu_inv hd
    obtain ⟨x, hx2, rfl⟩ := Option.map_eq_some_iff.mp hv
    exact lv_ldc2 hx hb hown (hts _ (mm_cj_word (Nat.le_of_ble_eq_true hix) hx2)) (hdg rfl) (kk sl H locs Dy0)
  case iinc n c9 =>
    simp only [mm_do] at hd
    split at hd
    · next x hv =>
      obtain ⟨g1, hd⟩ := mm_cond_inv hd
      obtain ⟨rfl, rfl, rfl, rfl⟩ := mm_nx_inj hd
      have g2 := mm_gI_inv' hv
      have g3 : (n, mm_cv xv bs (.int x)) ∈ mm_lvl xv bs ls := mm_lvl_mem.mpr ⟨_, g2, rfl⟩
      obtain ⟨k, hk⟩ := List.getElem?_of_mem g3
      exact lv_iinc hx hb (hdg rfl) hl hk rfl (Nat.le_of_ble_eq_true g1) rfl (fun sl2 z => kk sl2 H locs (DyL _ sl2 (mm_lv_st1 hxc z)))
    · cases hd
  case iadd =>
    obtain ⟨x, y, r, rfl, rfl, rfl, rfl, rfl⟩ := mm_b2_inv hd
    exact lv_iadd hx hb (hdg rfl) (kk sl H locs Dy0)
  case isub =>
    obtain ⟨x, y, r, rfl, rfl, rfl, rfl, rfl⟩ := mm_b2_inv hd
    exact lv_isub hx hb (hdg rfl) (kk sl H locs Dy0)
  case imul =>
    obtain ⟨x, y, r, rfl, rfl, rfl, rfl, rfl⟩ := mm_b2_inv hd
    exact lv_imul hx hb (hdg rfl) (kk sl H locs Dy0)
  case iand =>
    obtain ⟨x, y, r, rfl, rfl, rfl, rfl, rfl⟩ := mm_b2_inv hd
    exact lv_iand hx hb (hdg rfl) (kk sl H locs Dy0)
  case ior =>
    obtain ⟨x, y, r, rfl, rfl, rfl, rfl, rfl⟩ := mm_b2_inv hd
    exact lv_ior hx hb (hdg rfl) (kk sl H locs Dy0)
  case ixor =>
    obtain ⟨x, y, r, rfl, rfl, rfl, rfl, rfl⟩ := mm_b2_inv hd
    exact lv_ixor hx hb (hdg rfl) (kk sl H locs Dy0)
  case ishl =>
    obtain ⟨x, y, r, rfl, rfl, rfl, rfl, rfl⟩ := mm_b2_inv hd
    exact lv_ishl hx hb (hdg rfl) (kk sl H locs Dy0)
  case ishr =>
    obtain ⟨x, y, r, rfl, rfl, rfl, rfl, rfl⟩ := mm_b2_inv hd
    exact lv_ishr hx hb (hdg rfl) (kk sl H locs Dy0)
  case iushr =>
    obtain ⟨x, y, r, rfl, rfl, rfl, rfl, rfl⟩ := mm_b2_inv hd
    exact lv_iushr hx hb (hdg rfl) rfl (kk sl H locs Dy0)
  case idiv =>
    obtain ⟨x, y, r, rfl, hy, rfl, rfl, rfl, rfl⟩ := mm_d2_inv hd
    exact lv_idiv hx hb (hdg rfl) hy (kk sl H locs Dy0)
  case irem =>
    obtain ⟨x, y, r, rfl, hy, rfl, rfl, rfl, rfl⟩ := mm_d2_inv hd
    exact lv_irem hx hb (hdg rfl) hy (kk sl H locs Dy0)
  case ineg =>
    obtain ⟨x, r, rfl, rfl, rfl, rfl, rfl⟩ := mm_u1_inv hd
    exact lv_ineg hx hb (hdg rfl) (kk sl H locs Dy0)
  case i2b =>
    obtain ⟨x, r, rfl, rfl, rfl, rfl, rfl⟩ := mm_u1_inv hd
    exact lv_i2b hx hb (hdg rfl) rfl (kk sl H locs Dy0)
  case i2c =>
    obtain ⟨x, r, rfl, rfl, rfl, rfl, rfl⟩ := mm_u1_inv hd
    exact lv_i2c hx hb (hdg rfl) rfl (kk sl H locs Dy0)
  case i2l =>
    obtain ⟨x, r, rfl, rfl, rfl, rfl, rfl⟩ := mm_u1_inv hd
    exact lv_i2l hx hb (hdg rfl) rfl (kk sl H locs Dy0)
  case ladd =>
    obtain ⟨x, y, r, rfl, rfl, rfl, rfl, rfl⟩ := mm_j2_inv hd
    exact lv_ladd hx hb (hdg rfl) (kk sl H locs Dy0)
  case lmul =>
    obtain ⟨x, y, r, rfl, rfl, rfl, rfl, rfl⟩ := mm_j2_inv hd
    exact lv_lmul hx hb (hdg rfl) (kk sl H locs Dy0)
  case lor =>
    obtain ⟨x, y, r, rfl, rfl, rfl, rfl, rfl⟩ := mm_j2_inv hd
    exact lv_lor hx hb (hdg rfl) (kk sl H locs Dy0)
  case lcmp =>
    obtain ⟨x, y, r, rfl, rfl, rfl, rfl, rfl⟩ := mm_j2_inv hd
    exact W.lcmp hx hb (hdg rfl) (kk sl H locs Dy0)
  case lshl =>
    simp only [mm_do] at hd
    split at hd
    · obtain ⟨rfl, rfl, rfl, rfl⟩ := mm_nx_inj hd
      exact lv_lshl hx hb (hdg rfl) rfl (kk sl H locs Dy0)
    · cases hd
  case ifCond cnd off =>
    simp only [mm_do] at hd
    split at hd
    · next x r =>
      cases cnd
      case eq =>
        obtain ⟨u, hu, hq, rfl, rfl, rfl⟩ := mm_br_inv hd
        rcases hq with ⟨hq, rfl⟩ | ⟨hq, rfl⟩
        · exact lv_if_eq hx hb (hdg rfl) (mm_tg_inv hu) (fun _ => (kk sl H locs Dy0)) (fun z => absurd hq z)
        · exact lv_if_eq hx hb (hdg rfl) (mm_tg_inv hu) (fun z => absurd z hq) (fun _ => (kk sl H locs Dy0))
      case ne =>
        obtain ⟨u, hu, hq, rfl, rfl, rfl⟩ := mm_br_inv hd
        rcases hq with ⟨hq, rfl⟩ | ⟨hq, rfl⟩
        · exact lv_if_ne hx hb (hdg rfl) (mm_tg_inv hu) (fun z => absurd hq z) (fun _ => (kk sl H locs Dy0))
        · exact lv_if_ne hx hb (hdg rfl) (mm_tg_inv hu) (fun _ => (kk sl H locs Dy0)) (fun z => absurd z hq)
      case lt =>
        obtain ⟨u, hu, hq, rfl, rfl, rfl⟩ := mm_br_inv hd
        rcases hq with ⟨hq, rfl⟩ | ⟨hq, rfl⟩
        · exact lv_if_lt hx hb (hdg rfl) (mm_tg_inv hu) (fun _ => (kk sl H locs Dy0)) (fun z => absurd hq z)
        · exact lv_if_lt hx hb (hdg rfl) (mm_tg_inv hu) (fun z => absurd z hq) (fun _ => (kk sl H locs Dy0))
      case ge =>
        obtain ⟨u, hu, hq, rfl, rfl, rfl⟩ := mm_br_inv hd
        rcases hq with ⟨hq, rfl⟩ | ⟨hq, rfl⟩
        · exact lv_if_ge hx hb (hdg rfl) (mm_tg_inv hu) (fun z => absurd z (Int32.not_le.mpr hq)) (fun _ => (kk sl H locs Dy0))
        · exact lv_if_ge hx hb (hdg rfl) (mm_tg_inv hu) (fun _ => (kk sl H locs Dy0)) (fun z => absurd (Int32.not_lt.mp hq) z)
      case gt =>
        obtain ⟨u, hu, hq, rfl, rfl, rfl⟩ := mm_br_inv hd
        rcases hq with ⟨hq, rfl⟩ | ⟨hq, rfl⟩
        · exact lv_if_gt hx hb (hdg rfl) (mm_tg_inv hu) (fun _ => (kk sl H locs Dy0)) (fun z => absurd hq z)
        · exact lv_if_gt hx hb (hdg rfl) (mm_tg_inv hu) (fun z => absurd z hq) (fun _ => (kk sl H locs Dy0))
      case le =>
        obtain ⟨u, hu, hq, rfl, rfl, rfl⟩ := mm_br_inv hd
        rcases hq with ⟨hq, rfl⟩ | ⟨hq, rfl⟩
        · exact lv_if_le hx hb (hdg rfl) (mm_tg_inv hu) (fun z => absurd z (Int32.not_le.mpr hq)) (fun _ => (kk sl H locs Dy0))
        · exact lv_if_le hx hb (hdg rfl) (mm_tg_inv hu) (fun _ => (kk sl H locs Dy0)) (fun z => absurd (Int32.not_lt.mp hq) z)
    · cases hd
  case if_icmp cnd off =>
    simp only [mm_do] at hd
    split at hd
    · next y x r =>
      cases cnd
      case eq =>
        obtain ⟨u, hu, hq, rfl, rfl, rfl⟩ := mm_br_inv hd
        rcases hq with ⟨hq, rfl⟩ | ⟨hq, rfl⟩
        · exact lv_icmp_eq hx hb (hdg rfl) (mm_tg_inv hu) (fun _ => (kk sl H locs Dy0)) (fun z => absurd hq z)
        · exact lv_icmp_eq hx hb (hdg rfl) (mm_tg_inv hu) (fun z => absurd z hq) (fun _ => (kk sl H locs Dy0))
      case ne =>
        obtain ⟨u, hu, hq, rfl, rfl, rfl⟩ := mm_br_inv hd
        rcases hq with ⟨hq, rfl⟩ | ⟨hq, rfl⟩
        · exact lv_icmp_ne hx hb (hdg rfl) (mm_tg_inv hu) (fun z => absurd hq z) (fun _ => (kk sl H locs Dy0))
        · exact lv_icmp_ne hx hb (hdg rfl) (mm_tg_inv hu) (fun _ => (kk sl H locs Dy0)) (fun z => absurd z hq)
      case lt =>
        obtain ⟨u, hu, hq, rfl, rfl, rfl⟩ := mm_br_inv hd
        rcases hq with ⟨hq, rfl⟩ | ⟨hq, rfl⟩
        · exact lv_icmp_lt hx hb (hdg rfl) (mm_tg_inv hu) (fun _ => (kk sl H locs Dy0)) (fun z => absurd hq z)
        · exact lv_icmp_lt hx hb (hdg rfl) (mm_tg_inv hu) (fun z => absurd z hq) (fun _ => (kk sl H locs Dy0))
      case ge =>
        obtain ⟨u, hu, hq, rfl, rfl, rfl⟩ := mm_br_inv hd
        rcases hq with ⟨hq, rfl⟩ | ⟨hq, rfl⟩
        · exact lv_icmp_ge hx hb (hdg rfl) (mm_tg_inv hu) (fun z => absurd z (Int32.not_le.mpr hq)) (fun _ => (kk sl H locs Dy0))
        · exact lv_icmp_ge hx hb (hdg rfl) (mm_tg_inv hu) (fun _ => (kk sl H locs Dy0)) (fun z => absurd (Int32.not_lt.mp hq) z)
      case gt =>
        obtain ⟨u, hu, hq, rfl, rfl, rfl⟩ := mm_br_inv hd
        rcases hq with ⟨hq, rfl⟩ | ⟨hq, rfl⟩
        · exact lv_icmp_gt hx hb (hdg rfl) (mm_tg_inv hu) (fun _ => (kk sl H locs Dy0)) (fun z => absurd hq z)
        · exact lv_icmp_gt hx hb (hdg rfl) (mm_tg_inv hu) (fun z => absurd z hq) (fun _ => (kk sl H locs Dy0))
      case le =>
        obtain ⟨u, hu, hq, rfl, rfl, rfl⟩ := mm_br_inv hd
        rcases hq with ⟨hq, rfl⟩ | ⟨hq, rfl⟩
        · exact lv_icmp_le hx hb (hdg rfl) (mm_tg_inv hu) (fun z => absurd z (Int32.not_le.mpr hq)) (fun _ => (kk sl H locs Dy0))
        · exact lv_icmp_le hx hb (hdg rfl) (mm_tg_inv hu) (fun _ => (kk sl H locs Dy0)) (fun z => absurd (Int32.not_lt.mp hq) z)
    · cases hd
  case goto off =>
    obtain ⟨ht, rfl, rfl, rfl⟩ := mm_go_inv hd
    exact lv_goto hx hb (hdg rfl) (mm_tg_inv ht) (kk sl H locs Dy0)
  case tableswitch d lo hi offs =>
    simp only [mm_do] at hd
    split at hd
    · next x r =>
      by_cases hq : x.toInt < lo ∨ hi < x.toInt
      · rw [if_pos hq] at hd
        obtain ⟨ht, rfl, rfl, rfl⟩ := mm_go_inv hd
        exact lv_tableOut hx hb hdec hq (mm_tg_inv ht) (kk sl H locs Dy0)
      · rw [if_neg hq] at hd
        split at hd
        · next off ho =>
          obtain ⟨ht, rfl, rfl, rfl⟩ := mm_go_inv hd
          exact lv_tableIn hx hb hdec (fun z => hq (Or.inl z)) (fun z => hq (Or.inr z)) ho (mm_tg_inv ht) (kk sl H locs Dy0)
        · cases hd
    · cases hd
  case lookupswitch d ps =>
    simp only [mm_do] at hd
    split at hd
    · next x r =>
      obtain ⟨g1, hd⟩ := mm_cond_inv hd
      obtain ⟨ht, rfl, rfl, rfl⟩ := mm_go_inv hd
      exact lv_lookup hx hb hdec g1 rfl (mm_tg_inv ht) (kk sl H locs Dy0)
    · cases hd
  case dup =>
    simp only [mm_do] at hd
    split at hd
    · next v r =>
      obtain ⟨g1, hd⟩ := mm_cond_inv hd
      obtain ⟨rfl, rfl, rfl, rfl⟩ := mm_nx_inj hd
      exact lv_dup hx hb (hdg rfl) (by rw [mm_cv_cat hxc]; exact Nat.eq_of_beq_eq_true g1) (kk sl H locs Dy0)
    · cases hd
  case dup2 =>
    simp only [mm_do] at hd
    split at hd
    · next v w r =>
      obtain ⟨g1, hd⟩ := mm_cond_inv hd
      simp only [Bool.and_eq_true, Nat.beq_eq] at g1
      obtain ⟨rfl, rfl, rfl, rfl⟩ := mm_nx_inj hd
      exact lv_dup2_11 hx hb (hdg rfl) (by rw [mm_cv_cat hxc]; exact g1.1) (by rw [mm_cv_cat hxc]; exact g1.2) (kk sl H locs Dy0)
    · cases hd
  case pop =>
    simp only [mm_do] at hd
    split at hd
    · next v r =>
      obtain ⟨g1, hd⟩ := mm_cond_inv hd
      obtain ⟨rfl, rfl, rfl, rfl⟩ := mm_nx_inj hd
      exact lv_pop hx hb (hdg rfl) (by rw [mm_cv_cat hxc]; exact Nat.eq_of_beq_eq_true g1) (kk sl H locs Dy0)
    · cases hd
  case getfield k => exact mm_sim_gf C0 (Nat.le_of_ble_eq_true hix) (hdg rfl) hd Dy0 kk
  case putfield k => exact mm_sim_pf C0 (Nat.le_of_ble_eq_true hix) (hdg rfl) hd Dy0 kk
  case getstatic k =>
    have hk : k < 2000 := Nat.le_of_ble_eq_true hix
    simp only [mm_do] at hd
    obtain ⟨adK, adV, hSt, hR1, hR2, x1, x2, x3, x4, hZ1, hZ2⟩ := hext
    have hw : ∀ j, mm_lk mm_fl (mm_own m * 2000 + k) = some (14, j) → mm_own m = 13 ∧ ((k = 38 ∧ j = 0) ∨ (k = 1053 ∧ j = 1)) := by
      intro j hj
      have h3 : (mm_lv mm_fl).all (fun x => !(Nat.beq x.2.1 14) || ((Nat.beq x.1 26038 && Nat.beq x.2.2 0) || (Nat.beq x.1 27053 && Nat.beq x.2.2 1))) = true := by decide +kernel
      have h4 := List.all_eq_true.mp h3 _ (mm_lk_spec hj)
      simp only [Bool.or_eq_true, Bool.not_eq_true', Bool.and_eq_true, Nat.beq_eq] at h4
      rcases h4 with h4 | ⟨g1, g2⟩ | ⟨g1, g2⟩
      · cases h4
      · exact ⟨by omega, Or.inl ⟨by omega, g2⟩⟩
      · exact ⟨by omega, Or.inr ⟨by omega, g2⟩⟩
    split at hd
    · next hj =>
      obtain ⟨rfl, rfl, rfl, rfl⟩ := mm_nx_inj hd
      obtain ⟨g1, g2⟩ := hw 0 hj
      rw [g1] at hown
      have hk2 : k = 38 := by omega
      subst hk2
      exact va_gets hx hb hZ1 hS hown (hts (.fieldLink "java/lang/String" 38 "java/lang/String" "COMPACT_STRINGS" "Z") (mm_chk_in (p := (1172, _)) (by decide +kernel))) (fun _ z => z) (hdg rfl) (kk sl H locs Dy0)
    · next hj =>
      obtain ⟨rfl, rfl, rfl, rfl⟩ := mm_nx_inj hd
      obtain ⟨g1, g2⟩ := hw 1 hj
      rw [g1] at hown
      have hk2 : k = 1053 := by omega
      subst hk2
      exact va_gets hx hb hZ2 hS hown (hts (.fieldLink "java/lang/String" 1053 "jdk/internal/util/Preconditions" "SIOOBE_FORMATTER" "Ljava/util/function/BiFunction;") (mm_chk_in (p := (1188, _)) (by decide +kernel))) (fun _ z => z) (hdg rfl) (kk sl H locs Dy0)
    · cases hd
  case iaload => exact mm_sim_iald C0 (hdg rfl) hd Dy0 kk
  case baload => exact mm_sim_bald C0 (hdg rfl) hd Dy0 kk
  case laload => exact mm_sim_lald C0 (hdg rfl) hd Dy0 kk
  case iastore => exact mm_sim_iast C0 (hdg rfl) hd Dy0 kk
  case bastore =>
    simp only [mm_do] at hd
    split at hd
    · next x1 x2 a r =>
      cases hb2 : Nat.beq (mm_sh a).1 2 with
      | true => rw [hb2] at hd; exact mm_sim_bast C0 (hdg rfl) hd Dy0 kk
      | false => rw [hb2] at hd; exact mm_sim_zast C0 (hdg rfl) hd Dy0 kk
    · cases hd
  case lastore => exact mm_sim_last C0 (hdg rfl) hd Dy0 kk
  case arraylength => exact mm_sim_alen C0 (hdg rfl) hd Dy0 kk
  case invokestatic k => exact absurd rfl (hni k)
  case new k =>
    exfalso
    simp only [mm_do] at hd
    split at hd
    · unfold mm_new at hd
      obtain ⟨g1, hd⟩ := mm_cond_inv hd
      obtain ⟨rfl, rfl, rfl, rfl⟩ := mm_nx_inj hd
      simp at hn
    · cases hd
  case newarray ty =>
    exfalso
    simp only [mm_do] at hd
    split at hd
    · split at hd
      · cases hd
      · have : ∀ r9 z, mm_new pc 2 ls r9 h z = some (.inl ((pc', ls', st'), h')) → False := by
          intro r9 z hd
          unfold mm_new at hd
          obtain ⟨g1, hd⟩ := mm_cond_inv hd
          obtain ⟨rfl, rfl, rfl, rfl⟩ := mm_nx_inj hd
          simp at hn
        split at hd
        · exact this _ _ hd
        · exact this _ _ hd
        · exact this _ _ hd
        · exact this _ _ hd
        · cases hd
    · cases hd
  case invokevirtual k =>
    exfalso
    simp only [mm_do] at hd
    unfold mm_call at hd
    split at hd
    · obtain ⟨g1, hd⟩ := mm_cond_inv hd; cases hd
    · cases hd
  case invokespecial k =>
    exfalso
    simp only [mm_do] at hd
    unfold mm_special at hd
    split at hd
    · obtain ⟨g1, hd⟩ := mm_cond_inv hd
      split at hd
      · obtain ⟨g1, hd⟩ := mm_cond_inv hd; cases hd
      · cases hd
    · cases hd
  case ireturn =>
    exfalso
    simp only [mm_do] at hd
    unfold mm_ret at hd
    split at hd
    · split at hd
      · cases hd
      · split at hd <;> cases hd
      · split at hd <;> cases hd
      · split at hd <;> cases hd
      · cases hd
    · cases hd
  case lreturn =>
    exfalso
    simp only [mm_do] at hd
    split at hd
    · obtain ⟨g1, hd⟩ := mm_cond_inv hd; cases hd
    · cases hd
  case return_ =>
    exfalso
    simp only [mm_do] at hd
    split at hd
    · obtain ⟨g1, hd⟩ := mm_cond_inv hd; cases hd
    · cases hd
  all_goals exact absurd hd (by intro z; cases z)
end MMS4
