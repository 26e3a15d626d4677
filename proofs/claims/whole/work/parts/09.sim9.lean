section MMS9
variable {p : Program} {l : Launch} {e : Env} {R : Room} {s : State} {mid : MethodId} {args : Array Value} {below : List Frame} {meth : Method} {c : Code} {H : Heap} {locs : List Loc} {cells slots : Nat} {Q : State → Prop}
variable {m bs : Nat} {cs : Nat → ClassId} {xv : Nat → Value} {X : mm_X} {D : va_G} {pc len pc' : Nat} {i : Instr} {ls ls' : List (Option Value)} {st st' : List Value} {h h' : mm_H} {sl : Array Slot}
set_option maxRecDepth 100000 in
theorem mm_cp_words {own k t : Nat} (hk : k < 2000) (hlk : mm_lk mm_ml (own * 2000 + k) = some (6, t)) : Cond.methodLink (mm_on own) k arraycopyName ∈ mm_TT := by
  have h3 : (mm_lv mm_ml).all (fun x => !(Nat.beq x.2.1 6) || (Nat.beq x.1 18107 || Nat.beq x.1 2064)) = true := by decide +kernel
  have h4 := List.all_eq_true.mp h3 _ (mm_lk_spec hlk)
  simp only [Bool.or_eq_true, Bool.not_eq_true', Nat.beq_eq] at h4
  rcases h4 with h4 | h4 | h4
  · cases h4
  · obtain ⟨rfl, rfl⟩ : own = 9 ∧ k = 107 := by omega
    exact mm_chk_in (p := (5232, _)) (by decide +kernel)
  · obtain ⟨rfl, rfl⟩ : own = 1 ∧ k = 64 := by omega
    exact mm_chk_in (p := (6032, _)) (by decide +kernel)
theorem mm_sim_copy {k t : Nat} (C : mm_Ctx p s mid args meth c m bs cs xv X D) (hk : k < 2000) (hlk : mm_lk mm_ml (mm_own m * 2000 + k) = some (6, t)) (hdg : decode (mm_b m) pc = .ok (.invokestatic k, 3)) (hd : mm_copy pc ls st h = some (.inl ((pc', ls', st'), h'))) (Dy : mm_Dyn s m bs cs xv D ls h sl H locs) (hfr : 1 ≤ R.frames) (hlo : 64 ≤ R.locals)
    (kk : ∀ sl' H' locs', mm_Dyn s m bs cs xv D ls' h' sl' H' locs' → W p l e R s mid args below meth c H' locs' cells slots Q (F0 mid pc' sl' (st'.map (mm_cv xv bs)))) : W p l e R s mid args below meth c H locs cells slots Q (F0 mid pc sl (st.map (mm_cv xv bs))) := by
  obtain ⟨hx, hb, hml, hown, hts, hnw, hK, hbs, hm, hini, hxc, hxr, hext, hscr⟩ := C
  obtain ⟨hsz, h0, hP, hS, hl⟩ := id Dy
  unfold mm_copy at hd
  split at hd
  · next n dp b sp a r =>
    obtain ⟨ho, hd⟩ := mm_cond_inv hd
    simp only [Bool.and_eq_true] at ho
    obtain ⟨⟨ho1, ho2⟩, ho3⟩ := ho
    obtain ⟨ha0, ha1, hsa⟩ := mm_isA_spec (kd := 1) ho1 (by omega)
    obtain ⟨hb0, hb1, hsb⟩ := mm_isA_spec (kd := 1) ho2 (by omega)
    by_cases hq : sp < 0 ∨ dp < 0 ∨ n < 0 ∨ mm_len a < sp.toNatClampNeg + n.toNatClampNeg ∨ mm_len b < dp.toNatClampNeg + n.toNatClampNeg
    · rw [if_pos hq] at hd; cases hd
    · rw [if_neg hq] at hd
      obtain ⟨rfl, rfl, rfl, rfl⟩ := mm_nx_inj hd
      have hea : (mm_ws bs cs h)[a - 1]? = some (bs + a, .inl (cs 1, mm_len a, .inl (h.2.1 a))) := by
        rw [mm_ws_get bs cs h ha0 ha1, mm_cell_I hsa (Or.inl rfl)]
      have heb : (mm_ws bs cs h)[b - 1]? = some (bs + b, .inl (cs 1, mm_len b, .inl (h.2.1 b))) := by
        rw [mm_ws_get bs cs h hb0 hb1, mm_cell_I hsb (Or.inl rfl)]
      show W p l e R s mid args below meth c H locs cells slots Q (F0 mid pc sl (.int n :: .int dp :: mm_rv bs b :: .int sp :: mm_rv bs a :: r.map (mm_cv xv bs)))
      rw [mm_rv_pos ha0, mm_rv_pos hb0]
      refine mm_copyi hx hb (by rw [hml]; exact hl.1.symm) hown (hts _ (mm_cp_words hk hlk)) (hts (.native arraycopyName) (mm_chk_in (p := (5234, _)) (by decide +kernel))) (hts (.static arraycopyName) (mm_chk_in (p := (5233, _)) (by decide +kernel))) (hts (.initialized "java/lang/System") (mm_chk_in (p := (1021, _)) (by decide +kernel))) hK hP (mm_ws_D bs cs h) hS (a - 1) (b - 1) 0 0 hea heb rfl rfl (fun z => hq (Or.inl z)) (fun z => hq (Or.inr (Or.inl z))) (fun z => hq (Or.inr (Or.inr (Or.inl z)))) (by omega) (by omega) hfr ?_ hdg (fun H1 locs1 z1 z2 z3 => ?_)
      · rw [mm_cat_cv hxc]
        have : mm_cat r ≤ 8 := Nat.le_of_ble_eq_true ho3
        have h9 : nativeFrameWords "java/lang/System" "arraycopy" 5 = 7 := by decide +kernel
        omega
      · have hset : (mm_ws bs cs h).set (b - 1) (bs + b, .inl (cs 1, mm_len b, .inl (va_cpy (h.2.1 a) (h.2.1 b) sp.toNatClampNeg dp.toNatClampNeg n.toNatClampNeg))) = mm_ws bs cs (h.1, mm_row h.2.1 b (va_cpy (h.2.1 a) (h.2.1 b) sp.toNatClampNeg dp.toNatClampNeg n.toNatClampNeg), h.2.2.1, h.2.2.2) :=
          mm_ws_set (h := h) (h' := (h.1, mm_row h.2.1 b (va_cpy (h.2.1 a) (h.2.1 b) sp.toNatClampNeg dp.toNatClampNeg n.toNatClampNeg), h.2.2.1, h.2.2.2)) rfl hb0 hb1 (fun z hz => mm_cell_cong (mm_row_ne hz) rfl rfl) (by rw [mm_cell_I hsb (Or.inl rfl)]; exact congrArg (fun z => (Sum.inl (cs 1, mm_len b, Sum.inl z) : va_E)) mm_row_eq)
        rw [hset] at z2
        exact kk sl H1 locs1 ⟨by rw [z1]; exact hsz, h0, z2, z3, hl⟩
  · cases hd
end MMS9
set_option maxHeartbeats 4000000 in
/-- THE SMALL MACHINE IS THE MACHINE: what it comes to, the machine comes to -/
theorem mm_sim (l : Launch) : ∀ n, mm_Sim l n
  | 0 => by
    intro X d m f h r h' hev
    simp [mm_ev] at hev
  | n + 1 => by
    intro X d m f h r h' hev p e R s mid args below meth c H locs cells slots Q bs cs xv D sl C Dy hfr hlo hce hsl hret
    have hm : m < 351 := C.2.2.2.2.2.2.2.2.1
    rw [mm_ev] at hev
    split at hev
    · next f1 h1 hs =>
      obtain ⟨len, i, hat, hd⟩ := mm_stp_inv hs
      have hna1 := mm_ev_na n X d m f1 h1 r h' hev
      obtain ⟨pc1, ls1, st1⟩ := f1
      -- the rest of the run, from a heap of as many cells
      have same : h1.1 = h.1 → ∀ sl' H' locs', mm_Dyn s m bs cs xv D ls1 h1 sl' H' locs' → W p l e R s mid args below meth c H' locs' cells slots Q (F0 mid pc1 sl' (st1.map (mm_cv xv bs))) := by
        intro he sl' H' locs' Dy'
        refine mm_sim l n X d m (pc1, ls1, st1) h1 r h' hev C Dy' hfr hlo (by rw [he]; exact hce) (by rw [he]; exact hsl) ?_
        rw [he]; exact hret
      rcases mm_knd_le i with hk | hk | hk | hk
      · obtain ⟨_, _, g1, g2⟩ := mm_do_smp hk _ hd
        cases g1
        refine mm_sim1 C hat hd g2 (fun k z => by subst z; cases hk) Dy (same g2)
      · obtain ⟨_, _, g1, g2, g3⟩ := mm_do_new hk hd
        cases g1
        have hS1 : mm_S h1.1 = mm_S h.1 + mm_sz h.1 := by rw [g2, mm_S]
        have hS2 := mm_S_le hna1
        refine mm_simN C hat hd g3 Dy (by omega) (by omega) ?_
        intro sl' H' locs' Dy'
        refine mm_sim l n X d m (pc1, ls1, st1) h1 r h' hev C Dy' hfr hlo (by omega) (by omega) ?_
        rw [show cells + 1 + (h'.1 - h1.1) = cells + (h'.1 - h.1) by omega, show slots + mm_sz h.1 + (mm_S h'.1 - mm_S h1.1) = slots + (mm_S h'.1 - mm_S h.1) by omega]
        exact hret
      · rcases mm_do_call hk hd with ⟨_, _, _, g1, -⟩ | ⟨k, t, rfl, g1, g2⟩
        · cases g1
        · obtain ⟨_, _, g3, g4⟩ := mm_smp_copy _ g2
          cases g3
          obtain ⟨hdec, hlen, hix⟩ := mm_at_ok hm hat
          have hl3 : len = 3 := by rcases hlen with g | g; cases g; exact g
          subst hl3
          exact mm_sim_copy C (Nat.le_of_ble_eq_true hix) g1 hdec g2 Dy (by omega) (by omega) (same g4)
      · obtain ⟨_, g1, -⟩ := mm_do_ret hm hat hk hd
        cases g1
    · next v hs =>
      obtain ⟨len, i, hat, hd⟩ := mm_stp_inv hs
      cases hev
      rcases mm_knd_le i with hk | hk | hk | hk
      · obtain ⟨_, _, g1, -⟩ := mm_do_smp hk _ hd
        cases g1
      · obtain ⟨_, _, g1, -⟩ := mm_do_new hk hd
        cases g1
      · rcases mm_do_call hk hd with ⟨_, _, _, g1, -⟩ | ⟨_, _, -, -, g2⟩
        · cases g1
        · obtain ⟨_, _, g3, -⟩ := mm_smp_copy _ g2
          cases g3
      · obtain ⟨_, g1, g2, g3⟩ := mm_do_ret hm hat hk hd
        cases g1
        rw [g2]
        have := hret f.1 sl H locs Dy.1 Dy.2.2.1 Dy.2.2.2.1 g3
        rw [Nat.sub_self, Nat.sub_self] at this
        exact this
    · next t as f1 hs =>
      obtain ⟨len, i, hat, hd⟩ := mm_stp_inv hs
      cases d with
      | zero => simp at hev
      | succ d =>
        try dsimp only at hev
        split at hev
        · next v h1 hc =>
          have hna1 := mm_ev_na n none d t _ h v h1 hc
          have hna2 := mm_ev_na n X (d + 1) m _ h1 r h' hev
          have hS1 := mm_S_le hna1
          have hS2 := mm_S_le hna2
          rcases mm_knd_le i with hk | hk | hk | hk
          · obtain ⟨_, _, g1, -⟩ := mm_do_smp hk _ hd
            cases g1
          · obtain ⟨_, _, g1, -⟩ := mm_do_new hk hd
            cases g1
          · rcases mm_do_call hk hd with ⟨_, _, _, g1, g2⟩ | ⟨_, _, -, -, g2⟩
            · cases g1
              refine mm_sim_call (mm_sim l n) C hat g2 hc Dy hfr hlo (by omega) (by omega) ?_
              intro H' locs' Dy'
              refine mm_sim l n X (d + 1) m (mm_push f1 v) h1 r h' hev C Dy' hfr hlo (by omega) (by omega) ?_
              rw [show cells + (h1.1 - h.1) + (h'.1 - h1.1) = cells + (h'.1 - h.1) by omega, show slots + (mm_S h1.1 - mm_S h.1) + (mm_S h'.1 - mm_S h1.1) = slots + (mm_S h'.1 - mm_S h.1) by omega]
              exact hret
            · obtain ⟨_, _, g3, -⟩ := mm_smp_copy _ g2
              cases g3
          · obtain ⟨_, g1, -⟩ := mm_do_ret hm hat hk hd
            cases g1
        · simp at hev
    · simp at hev
