theorem mm_ix_inv {i : Int32} {n : Nat} {k : Nat → mm_R} {y : (mm_F × mm_H) ⊕ (Option Value) ⊕ (Nat × List Value × mm_F)} (e : mm_ix i n k = some y) : ¬ (i < 0 ∨ n ≤ i.toNatClampNeg) ∧ k i.toNatClampNeg = some y := by
  unfold mm_ix at e
  by_cases h : i < 0 ∨ n ≤ i.toNatClampNeg
  · rw [if_pos h] at e; cases e
  · rw [if_neg h] at e; exact ⟨h, e⟩
theorem mm_cond_inv {b : Bool} {x : mm_R} {y : (mm_F × mm_H) ⊕ (Option Value) ⊕ (Nat × List Value × mm_F)} (e : cond b x none = some y) : b = true ∧ x = some y := by
  cases b with
  | false => cases e
  | true => exact ⟨rfl, e⟩
section MMS
variable {p : Program} {l : Launch} {e : Env} {R : Room} {s : State} {mid : MethodId} {args : Array Value} {below : List Frame} {meth : Method} {c : Code} {H : Heap} {locs : List Loc} {cells slots : Nat} {Q : State → Prop}
variable {m bs : Nat} {cs : Nat → ClassId} {xv : Nat → Value} {X : mm_X} {D : va_G} {pc len pc' : Nat} {i : Instr} {ls ls' : List (Option Value)} {st st' : List Value} {h h' : mm_H} {sl : Array Slot}
/-- reading a field -/
theorem mm_sim_gf (C : mm_Ctx p s mid args meth c m bs cs xv X D) {k : Nat} (hk : k < 2000) (hdg : decode (mm_b m) pc = .ok (.getfield k, 3)) (hd : mm_gf pc ls st h (mm_lk mm_fl (mm_own m * 2000 + k)) = some (.inl ((pc', ls', st'), h'))) (Dy : mm_Dyn s m bs cs xv D ls h sl H locs)
    (kk : ∀ sl' H' locs', mm_Dyn s m bs cs xv D ls' h' sl' H' locs' → W p l e R s mid args below meth c H' locs' cells slots Q (F0 mid pc' sl' (st'.map (mm_cv xv bs)))) : W p l e R s mid args below meth c H locs cells slots Q (F0 mid pc sl (st.map (mm_cv xv bs))) := by
  obtain ⟨hx, hb, hml, hown, hts, hnw, hK, hbs, hm, hini, hxc, hxr, hext, hscr⟩ := C
  obtain ⟨hsz, h0, hP, hS, hl⟩ := id Dy
  unfold mm_gf at hd
  split at hd
  · next ci j hlk =>
    split at hd
    · next a r =>
      obtain ⟨ho, hd⟩ := mm_cond_inv hd
      obtain ⟨ha0, ha1, hsh⟩ := mm_isO_spec ho
      split at hd
      · next kd fin hfk =>
        obtain ⟨v, hv, rfl, rfl, rfl, rfl⟩ := mm_pu_inv hd
        have hc13 : ci < 13 := by
          have h1 := mm_lv_get mm_shp a
          have h2 : (mm_lv mm_shp).all (fun x => !(Nat.beq x.1 0) || Nat.blt x.2 13) = true := by decide +kernel
          have h3 := List.all_eq_true.mp h2 _ h1
          rw [show mm_shp.get a = (0, ci) from hsh] at h3
          have h4 : Nat.blt ci 13 = true := by simpa using h3
          exact Nat.le_of_ble_eq_true h4
        obtain ⟨q, ty, hq, hqn, hqc, hqw, hqt, hqm, hqf⟩ := mm_vw ci hc13
        have hj : j < mm_fn.getD ci 0 := mm_fl_k hlk hc13
        have hw := mm_fl_word hk hlk hc13 hq
        have hfv : mm_fv bs h ci a j = mm_cv xv bs v := by
          unfold mm_fv
          rw [hfk]
          unfold mm_rd at hv
          split at hv
          · cases hv; rfl
          · cases hv; rfl
          · cases hv; rfl
          · cases hv; rfl
          · cases hv
        have he : (mm_ws bs cs h)[a - 1]? = some (bs + a, .inr (ci, mm_fs bs h ci a)) := by
          rw [mm_ws_get bs cs h ha0 ha1, mm_cell_O hsh]
        have goal := va_get (p := p) (l := l) (e := e) (R := R) (below := below) (meth := meth) (locs := locs) (cells := cells) (slots := slots) (Q := Q) (ls := sl) (rest := r.map (mm_cv xv bs)) hx hb hts hqw hown hK hP (a - 1) he hq j (by rw [hqn]; exact hj) (hts _ hw) (fun _ z => z) (v := mm_cv xv bs v) (by rw [mm_fs_get hj, hfv]) hdg (kk sl H locs Dy)
        rw [← mm_rv_pos ha0] at goal
        exact goal
      · cases hd
    · next a r =>
      obtain ⟨ho, hd2⟩ := mm_cond_inv hd
      clear hd
      simp only [Bool.and_eq_true, Nat.beq_eq] at ho
      obtain ⟨⟨rfl, h1⟩, h2⟩ := ho
      have h1 : 1 ≤ a := Nat.le_of_ble_eq_true h1
      have h2 : a ≤ 2 := Nat.le_of_ble_eq_true h2
      obtain ⟨adK, adV, hSt, hR1, hR2, x1, x2, x3, x4, hZ1, hZ2⟩ := hext
      have hw : mm_own m = 13 ∧ ((k = 9 ∧ j = 0) ∨ (k = 15 ∧ j = 1)) := by
        have h3 : (mm_lv mm_fl).all (fun x => !(Nat.beq x.2.1 13) || ((Nat.beq x.1 26009 && Nat.beq x.2.2 0) || (Nat.beq x.1 26015 && Nat.beq x.2.2 1))) = true := by decide +kernel
        have h4 := List.all_eq_true.mp h3 _ (mm_lk_spec hlk)
        simp only [Bool.or_eq_true, Bool.not_eq_true', Bool.and_eq_true, Nat.beq_eq] at h4
        rcases h4 with h4 | ⟨g1, g2⟩ | ⟨g1, g2⟩
        · cases h4
        · exact ⟨by omega, Or.inl ⟨by omega, g2⟩⟩
        · exact ⟨by omega, Or.inr ⟨by omega, g2⟩⟩
      have hown' : s.vm.findClass "java/lang/String" = some mid.cls := by rw [hw.1] at hown; exact hown
      have hxa : ∃ i, i < 2 ∧ xv a = .ref (adK i) ∧ xv (a + 2) = .ref (adV i) := by
        rcases (show a = 1 ∨ a = 2 by omega) with rfl | rfl
        · exact ⟨0, by omega, x1, x3⟩
        · exact ⟨1, by omega, x2, x4⟩
      obtain ⟨i, hi, hxa1, hxa2⟩ := hxa
      rcases hw.2 with ⟨rfl, rfl⟩ | ⟨rfl, rfl⟩
      · obtain ⟨rfl, rfl, rfl, rfl⟩ := mm_nx_inj hd2
        have goal := vk_getf (p := p) (l := l) (e := e) (R := R) (below := below) (meth := meth) (locs := locs) (cells := cells) (slots := slots) (Q := Q) (ls := sl) (rest := r.map (mm_cv xv bs)) hx hb (hSt.1 i hi).2.2.1 hS hown' (hts (.fieldLink "java/lang/String" 9 "java/lang/String" "value" "[B") (mm_chk_in (p := (10054, _)) (by decide +kernel))) (fun _ z => z) hdg (by rw [← hxa2]; exact kk sl H locs Dy)
        rw [← hxa1] at goal
        exact goal
      · obtain ⟨rfl, rfl, rfl, rfl⟩ := mm_nx_inj hd2
        have goal := vk_getf (p := p) (l := l) (e := e) (R := R) (below := below) (meth := meth) (locs := locs) (cells := cells) (slots := slots) (Q := Q) (ls := sl) (rest := r.map (mm_cv xv bs)) hx hb (hSt.1 i hi).2.1 hS hown' (hts (.fieldLink "java/lang/String" 15 "java/lang/String" "coder" "B") (mm_chk_in (p := (10055, _)) (by decide +kernel))) (fun _ z => z) hdg (kk sl H locs Dy)
        rw [← hxa1] at goal
        exact goal
    · cases hd
  · cases hd
/-- writing a field -/
theorem mm_sim_pf (C : mm_Ctx p s mid args meth c m bs cs xv X D) {k : Nat} (hk : k < 2000) (hdg : decode (mm_b m) pc = .ok (.putfield k, 3)) (hd : mm_pf (fun ci => mm_isI m && Nat.beq (mm_own m) ci) pc ls st h (mm_lk mm_fl (mm_own m * 2000 + k)) = some (.inl ((pc', ls', st'), h'))) (Dy : mm_Dyn s m bs cs xv D ls h sl H locs)
    (kk : ∀ sl' H' locs', mm_Dyn s m bs cs xv D ls' h' sl' H' locs' → W p l e R s mid args below meth c H' locs' cells slots Q (F0 mid pc' sl' (st'.map (mm_cv xv bs)))) : W p l e R s mid args below meth c H locs cells slots Q (F0 mid pc sl (st.map (mm_cv xv bs))) := by
  obtain ⟨hx, hb, hml, hown, hts, hnw, hK, hbs, hm, hini, hxc, hxr, hext, hscr⟩ := C
  obtain ⟨hsz, h0, hP, hS, hl⟩ := id Dy
  unfold mm_pf at hd
  split at hd
  · next ci j hlk =>
    split at hd
    · next v a r =>
      obtain ⟨ho, hd⟩ := mm_cond_inv hd
      obtain ⟨ha0, ha1, hsh⟩ := mm_isO_spec ho
      split at hd
      · next kd fin hfk =>
        have hc13 : ci < 13 := by
          have h1 := mm_lv_get mm_shp a
          have h2 : (mm_lv mm_shp).all (fun x => !(Nat.beq x.1 0) || Nat.blt x.2 13) = true := by decide +kernel
          have h3 := List.all_eq_true.mp h2 _ h1
          rw [show mm_shp.get a = (0, ci) from hsh] at h3
          have h4 : Nat.blt ci 13 = true := by simpa using h3
          exact Nat.le_of_ble_eq_true h4
        obtain ⟨q, ty, hq, hqn, hqc, hqw, hqt, hqm, hqf⟩ := mm_vw ci hc13
        have hj : j < mm_fn.getD ci 0 := mm_fl_k hlk hc13
        have hjq : j < q.2.2 := by rw [hqn]; exact hj
        have hw := mm_fl_word hk hlk hc13 hq
        have hf := hqf j hjq
        unfold mm_fok at hf
        rw [hfk] at hf
        simp only [Bool.and_eq_true, decide_eq_true_eq, beq_iff_eq] at hf
        obtain ⟨⟨hkt, hfin⟩, hdecl⟩ := hf
        dsimp only at hd
        have hfi : ¬ (Nat.beq fin 1 = true ∧ (mm_isI m && Nat.beq (mm_own m) ci) = false) := by
          rintro ⟨g1, g2⟩
          rw [g1, g2] at hd
          cases hd
        have hd : (match kd, v with
          | 0, .int x => mm_nx (pc + 3) ls r (h.1, mm_up h.2.1 a j x, h.2.2.1, h.2.2.2)
          | 1, .long x => mm_nx (pc + 3) ls r (h.1, h.2.1, mm_up h.2.2.1 a j x, h.2.2.2)
          | 2, .ref x => mm_nx (pc + 3) ls r (h.1, h.2.1, h.2.2.1, mm_up h.2.2.2 a j x)
          | 3, .int x => if x = 0 ∨ x = 1 then mm_nx (pc + 3) ls r (h.1, mm_up h.2.1 a j x, h.2.2.1, h.2.2.2) else none
          | _, _ => none) = some (.inl ((pc', ls', st'), h')) := by
          cases hbb : (Nat.beq fin 1 && !(mm_isI m && Nat.beq (mm_own m) ci)) with
          | true => rw [hbb] at hd; cases hd
          | false => rw [hbb] at hd; exact hd
        have he : (mm_ws bs cs h)[a - 1]? = some (bs + a, .inr (ci, mm_fs bs h ci a)) := by
          rw [mm_ws_get bs cs h ha0 ha1, mm_cell_O hsh]
        have put : ∀ (h' : mm_H), h'.1 = h.1 → (∀ b, b ≠ a → mm_cell bs cs h' b = mm_cell bs cs h b) → mm_fv bs h' ci a j = mm_cv xv bs v → (∀ z, z ≠ j → mm_fv bs h' ci a z = mm_fv bs h ci a z) → narrow (ty j) (mm_cv xv bs v) = mm_cv xv bs v → fits (ty j) (mm_cv xv bs v) = true →
            (∀ sl' H' locs', mm_Dyn s m bs cs xv D ls h' sl' H' locs' → W p l e R s mid args below meth c H' locs' cells slots Q (F0 mid (pc + 3) sl' (r.map (mm_cv xv bs)))) → W p l e R s mid args below meth c H locs cells slots Q (F0 mid pc sl (List.map (mm_cv xv bs) (v :: .ref a :: r))) := by
          intro h2 hn hcell hv ho hnar hfit kk
          have hset : (mm_ws bs cs h).set (a - 1) (bs + a, .inr (ci, (mm_fs bs h ci a).set j (mm_cv xv bs v))) = mm_ws bs cs h2 := by
            refine mm_ws_set hn ha0 ha1 hcell ?_
            rw [mm_cell_O hsh, mm_fs_set hj hv ho]
          have fin2 : ∀ (H1 : Heap) (locs1 : List Loc), H1.size = H.size → va_P D vwCl ((mm_ws bs cs h).set (a - 1) (bs + a, .inr (ci, (mm_fs bs h ci a).set j (mm_cv xv bs v)))) H1 → va_S (mm_A bs) s.heap H1 locs1 → mm_Dyn s m bs cs xv D ls h2 sl H1 locs1 := by
            intro H1 locs1 z1 z2 z3
            rw [hset] at z2
            exact ⟨by rw [z1, hsz, hn], by rw [hn]; exact h0, z2, z3, hl⟩
          show W p l e R s mid args below meth c H locs cells slots Q (F0 mid pc sl (mm_cv xv bs v :: mm_rv bs a :: r.map (mm_cv xv bs)))
          rw [mm_rv_pos ha0]
          by_cases hfn : (q.2.1 j).2.2.2 = true
          · have hI : mm_isI m = true ∧ mm_own m = ci := by
              cases hz : (mm_isI m && Nat.beq (mm_own m) ci) with
              | true => simpa only [Bool.and_eq_true, Nat.beq_eq] using hz
              | false => exact absurd ⟨by rw [hfin]; exact hfn, hz⟩ hfi
            exact mm_putF hx hb hts hqw ty hqt hqm hown hK hP (mm_ws_D bs cs h) hS (a - 1) he hq j hjq (hts _ hw) hfn (hini hI.1) (by rw [hdecl, hqc, hI.2]) hnar hfit (by rw [mm_fs_len]; exact hj) hdg (fun H1 locs1 z1 z2 z3 => kk sl H1 locs1 (fin2 H1 locs1 z1 z2 z3))
          · exact mm_put hx hb hts hqw ty hqt hqm hown hK hP (mm_ws_D bs cs h) hS (a - 1) he hq j hjq (hts _ hw) (by simpa using hfn) hnar hfit (by rw [mm_fs_len]; exact hj) hdg (fun H1 locs1 z1 z2 z3 => kk sl H1 locs1 (fin2 H1 locs1 z1 z2 z3))
        have hkj : ∀ z, z ≠ j → ci * 100 + z ≠ ci * 100 + j := fun z hz => by omega
        split at hd
        · next =>
          obtain ⟨rfl, rfl, rfl, rfl⟩ := mm_nx_inj hd
          have hty : ty j = .int := by
            revert hkt; cases ty j <;> intro z <;> first | rfl | cases z
          refine put _ ?_ ?_ ?_ ?_ ?_ ?_ kk
          · rfl
          · exact fun b hb => mm_cell_cong (mm_up_ne hb) rfl rfl
          · unfold mm_fv; rw [hfk]; simp [mm_up, mm_cv]
          · intro z hz; unfold mm_fv; simp [mm_up, hz]
          · rw [hty]; rfl
          · rw [hty]; rfl
        · next =>
          obtain ⟨rfl, rfl, rfl, rfl⟩ := mm_nx_inj hd
          have hty : ty j = .long := by
            revert hkt; cases ty j <;> intro z <;> first | rfl | cases z
          refine put _ ?_ ?_ ?_ ?_ ?_ ?_ kk
          · rfl
          · exact fun b hb => mm_cell_cong rfl (mm_up_ne hb) rfl
          · unfold mm_fv; rw [hfk]; simp [mm_up, mm_cv]
          · intro z hz; unfold mm_fv; simp [mm_up, hz]
          · rw [hty]; rfl
          · rw [hty]; rfl
        · next =>
          obtain ⟨rfl, rfl, rfl, rfl⟩ := mm_nx_inj hd
          have hfr : ∀ x, narrow (ty j) (mm_rv bs x) = mm_rv bs x ∧ fits (ty j) (mm_rv bs x) = true := by
            intro x
            revert hkt
            cases ty j <;> intro z <;> first | (cases x <;> exact ⟨rfl, rfl⟩) | cases z
          refine put _ ?_ ?_ ?_ ?_ ?_ ?_ kk
          · rfl
          · exact fun b hb => mm_cell_cong rfl rfl (mm_up_ne hb)
          · unfold mm_fv; rw [hfk]; simp [mm_up, mm_cv]
          · intro z hz; unfold mm_fv; simp [mm_up, hz]
          · exact (hfr _).1
          · exact (hfr _).2
        · next =>
          split at hd
          · next hx01 =>
            obtain ⟨rfl, rfl, rfl, rfl⟩ := mm_nx_inj hd
            have hty : ty j = .boolean := by
              revert hkt; cases ty j <;> intro z <;> first | rfl | cases z
            refine put _ ?_ ?_ ?_ ?_ ?_ ?_ kk
            · rfl
            · exact fun b hb => mm_cell_cong (mm_up_ne hb) rfl rfl
            · unfold mm_fv; rw [hfk]; simp [mm_up, mm_cv]
            · intro z hz; unfold mm_fv; simp [mm_up, hz]
            · rw [hty]; rcases hx01 with rfl | rfl <;> rfl
            · rw [hty]; rcases hx01 with rfl | rfl <;> rfl
          · cases hd
        · cases hd
      · cases hd
    · cases hd
  · cases hd
end MMS
