def mm_inst (kd : Nat) : Bool := Nat.beq kd 0 || Nat.beq kd 1 || Nat.beq kd 4 || Nat.beq kd 5
def mm_mlc (x : Nat × Nat × Nat) : Bool := Nat.beq x.2.1 6 ||
  (cond (mm_inst x.2.1) (mm_imP.any (fun e => Nat.beq e.1 x.2.2) && decide ((parseMethodDescriptor (mm_y x.2.2).desc).map (fun d => d.parameters.length) = some (mm_na x.2.2 - 1)) && Nat.ble 1 (mm_na x.2.2)) (mm_smP.any (fun e => Nat.beq e.1 x.2.2) && decide ((parseMethodDescriptor (mm_y x.2.2).desc).map (fun d => d.parameters.length) = some (mm_na x.2.2)))
   && (!(Nat.ble x.2.1 1) || mm_seP.any (fun e => Nat.beq e.1 x.2.2)) && (Nat.beq x.2.2 349 || mm_inP.any (fun e => Nat.beq e.1 (mm_own x.2.2))) && (!(Nat.beq x.2.1 4 || Nat.beq x.2.1 5) || decide ((mm_y x.2.2).name = "<init>")) && (!(Nat.beq x.2.2 349) || Nat.beq x.2.1 4))
set_option maxRecDepth 100000 in
theorem mm_mlc_all : (mm_lv mm_ml).all mm_mlc = true := by decide +kernel
theorem mm_any1 {P : List (Nat × Nat)} {t : Nat} (h : P.any (fun e => Nat.beq e.1 t) = true) : ∃ p, (t, p) ∈ P := by
  obtain ⟨e, he, h2⟩ := List.any_eq_true.mp h
  exact ⟨e.2, by rw [← Nat.eq_of_beq_eq_true h2]; exact he⟩
/-- what the tables say of a call's target -/
def mm_Tgt (s : State) (args : Array Value) (own k kd t : Nat) : Prop :=
  (((kd = 0 ∨ kd = 2 ∨ kd = 4) ∧ (Cond.methodLink (mm_on own) k (mm_y t)).before args s = true) ∨ ((kd = 1 ∨ kd = 3 ∨ kd = 5) ∧ va_Nw (.methodLinkNest (mm_on own) k (mm_y t) "BoardCrossing") s)) ∧
  (mm_inst kd = true → (Cond.instanceMethod (mm_y t)).before args s = true ∧ (parseMethodDescriptor (mm_y t).desc).map (fun d => d.parameters.length) = some (mm_na t - 1) ∧ 1 ≤ mm_na t) ∧
  (mm_inst kd = false → (Cond.static (mm_y t)).before args s = true ∧ (parseMethodDescriptor (mm_y t).desc).map (fun d => d.parameters.length) = some (mm_na t)) ∧
  (kd ≤ 1 → (Cond.selects (mm_y t).cls (mm_y t) (mm_y t)).before args s = true) ∧ (t ≠ 349 → (Cond.initialized (mm_y t).cls).before args s = true) ∧ (kd = 4 ∨ kd = 5 → (mm_y t).name = "<init>") ∧ (t = 349 → kd = 4)
theorem mm_tgt {s : State} {args : Array Value} (hts : ∀ w ∈ mm_TT, w.before args s = true) (hnw : ∀ w ∈ mm_nw, va_Nw w s) {own k kd t : Nat} (hk : k < 2000) (ht : t < 350) (h : mm_lk mm_ml (own * 2000 + k) = some (kd, t)) (h6 : kd ≠ 6) : mm_Tgt s args own k kd t := by
  have hin := mm_lk_spec h
  have hc := List.all_eq_true.mp mm_mlc_all _ hin
  obtain ⟨y1, y2, y3, y4, y5⟩ := mm_yok_spec (t := t) (by omega)
  unfold mm_mlc at hc
  simp only [Bool.or_eq_true, Nat.beq_eq, Bool.and_eq_true] at hc
  rcases hc with hc | ⟨⟨⟨⟨hc1, hc2⟩, hc3⟩, hc4⟩, hc5⟩
  · exact absurd hc h6
  refine ⟨?_, fun hi => ?_, fun hi => ?_, fun hi => ?_, fun hi => ?_, fun hi => ?_, fun hi => ?_⟩
  · rcases mm_ml_in _ hin with ⟨g1, p, g2⟩ | ⟨g1, g2⟩ | g1
    · left
      refine ⟨g1, ?_⟩
      have := mm_chk_in (mm_mlP_ok _ g2)
      unfold mm_mlw at this
      simp only at this
      rw [show (own * 2000 + k) / 2000 = own by omega, show (own * 2000 + k) % 2000 = k by omega] at this
      exact hts _ this
    · right
      refine ⟨g1, ?_⟩
      have := hnw _ (List.mem_map.mpr ⟨_, g2, rfl⟩)
      simp only at this
      rw [show (own * 2000 + k) / 2000 = own by omega, show (own * 2000 + k) % 2000 = k by omega] at this
      exact this
    · exact absurd g1 h6
  · rw [hi, cond_true] at hc1
    simp only [Bool.and_eq_true, decide_eq_true_eq] at hc1
    obtain ⟨p, hp⟩ := mm_any1 hc1.1.1
    exact ⟨hts _ (mm_chk_in (mm_imP_ok _ hp)), hc1.1.2, Nat.le_of_ble_eq_true hc1.2⟩
  · rw [hi, cond_false] at hc1
    simp only [Bool.and_eq_true, decide_eq_true_eq] at hc1
    obtain ⟨p, hp⟩ := mm_any1 hc1.1
    exact ⟨hts _ (mm_chk_in (mm_smP_ok _ hp)), hc1.2⟩
  · rcases hc2 with hc2 | hc2
    · have : Nat.ble kd 1 = true := Nat.ble_eq_true_of_le hi
      rw [this] at hc2; cases hc2
    · obtain ⟨p, hp⟩ := mm_any1 hc2
      exact hts _ (mm_chk_in (mm_seP_ok _ hp))
  · rcases hc3 with hc3 | hc3
    · exact absurd hc3 hi
    · obtain ⟨p, hp⟩ := mm_any1 hc3
      rw [y3]
      exact hts _ (mm_chk_in (mm_inP_ok _ hp))
  · rcases hc4 with hc4 | hc4
    · have : (Nat.beq kd 4 || Nat.beq kd 5) = true := by simpa using hi
      rw [this] at hc4; cases hc4
    · exact of_decide_eq_true hc4
  · rcases hc5 with hc5 | hc5
    · subst hi; cases hc5
    · exact hc5
theorem mm_good {ws : List Cond} (h : ∀ w ∈ ws, w ∈ mm_TT) : GoodIn mm_TT ws := fun w hw => ⟨h w hw, good_of_word (List.mem_filter.mp (h w hw)).2⟩
theorem mm_wsT_in {t : Nat} (ht : t < 350) : ∀ w ∈ mm_wsT t, w ∈ mm_TT := by
  intro w hw
  rcases List.mem_cons.mp hw with rfl | hw
  · exact mm_code_in t ht
  · exact hw
section MMS8
variable {p : Program} {l : Launch} {e : Env} {R : Room} {s : State} {mid : MethodId} {args : Array Value} {below : List Frame} {meth : Method} {c : Code} {H : Heap} {locs : List Loc} {cells slots : Nat} {Q : State → Prop}
variable {m bs : Nat} {cs : Nat → ClassId} {xv : Nat → Value} {X : mm_X} {D : va_G} {pc len pc' : Nat} {i : Instr} {ls ls' : List (Option Value)} {st st' : List Value} {h h' : mm_H} {sl : Array Slot}
theorem mm_cat_cv (hxc : ∀ k, (xv k).category = 1) (st : List Value) : ((st.map (mm_cv xv bs)).map fun v => v.category).sum = mm_cat st := by
  unfold mm_cat
  rw [List.map_map]
  congr 1
  exact List.map_congr_left fun v _ => mm_cv_cat hxc v
set_option maxHeartbeats 4000000 in
theorem mm_sim_call {n d t : Nat} {as : List Value} {f' : mm_F} {v : Option Value} {h1 : mm_H} (ih : mm_Sim l n) (C : mm_Ctx p s mid args meth c m bs cs xv X D) (hat : mm_at m pc = some (len, i)) (Cl : mm_Call m pc i ls st h t as f') (hev : mm_ev none n d t (mm_ent t as) h = some (v, h1)) (Dy : mm_Dyn s m bs cs xv D ls h sl H locs) (hfr : d + 2 ≤ R.frames) (hlo : 64 * (d + 2) ≤ R.locals) (hce : cells + (h1.1 - h.1) ≤ R.cells) (hsl : slots + (mm_S h1.1 - mm_S h.1) ≤ R.slots)
    (kk : ∀ H' locs', mm_Dyn s m bs cs xv D f'.2.1 h1 sl H' locs' → W p l e R s mid args below meth c H' locs' (cells + (h1.1 - h.1)) (slots + (mm_S h1.1 - mm_S h.1)) Q (F0 mid f'.1 sl ((mm_push f' v).2.2.map (mm_cv xv bs)))) : W p l e R s mid args below meth c H locs cells slots Q (F0 mid pc sl (st.map (mm_cv xv bs))) := by
  have C0 := C
  obtain ⟨hx, hb, hml, hown, hts, hnw, hK, hbs, hm, hini, hxc, hxr, hext, hscr⟩ := C
  obtain ⟨hsz, h0, hP, hS, hl⟩ := id Dy
  obtain ⟨rest, rfl, rfl, hcat, hmx, ht, hna, k, kd, hlk, hkind⟩ := Cl
  obtain ⟨hdec, hlen, hix⟩ := mm_at_ok hm hat
  have hk : k < 2000 := by
    rcases hkind with ⟨rfl, -⟩ | ⟨rfl, -⟩ | ⟨rfl, -⟩ <;> exact Nat.le_of_ble_eq_true hix
  have hl3 : len = 3 := by
    rcases hkind with ⟨rfl, -⟩ | ⟨rfl, -⟩ | ⟨rfl, -⟩ <;> (rcases hlen with g | g; cases g; exact g)
  subst hl3
  have h6 : kd ≠ 6 := by rcases hkind with ⟨-, g, -⟩ | ⟨-, g⟩ | ⟨-, g, -⟩ <;> omega
  obtain ⟨T1, T2, T3, T4, T5, T6, T7⟩ := mm_tgt hts hnw hk ht hlk h6
  obtain ⟨y1, y2, y3, y4, y5⟩ := mm_yok_spec (t := t) (by omega)
  have hstk : (as.reverse ++ rest).map (mm_cv xv bs) = (as.map (mm_cv xv bs)).reverse ++ rest.map (mm_cv xv bs) := by rw [List.map_append, List.map_reverse]
  rw [hstk]
  have hpush : (mm_push (pc + 3, ls, rest) v).2.2.map (mm_cv xv bs) = (v.map (mm_cv xv bs)).toList ++ rest.map (mm_cv xv bs) := by
    unfold mm_push
    cases v <;> rfl
  have kk2 : ∀ (H1 : Heap) (locs1 : List Loc), H1.size = bs + h1.1 → va_P D vwCl (mm_ws bs cs h1) H1 → va_S (mm_A bs) s.heap H1 locs1 → W p l e R s mid args below meth c H1 locs1 (cells + (h1.1 - h.1)) (slots + (mm_S h1.1 - mm_S h.1)) Q (F0 mid (pc + 3) sl ((v.map (mm_cv xv bs)).toList ++ rest.map (mm_cv xv bs))) := by
    intro H1 locs1 z1 z2 z3
    rw [← hpush]
    exact kk H1 locs1 ⟨z1, Nat.lt_of_lt_of_le h0 (mm_ev_na n none d t _ h v h1 hev), z2, z3, hl⟩
  by_cases hobj : t = 349
  · -- Object's own constructor
    have hkd : kd = 4 := T7 hobj
    subst hobj
    subst hkd
    rcases hkind with ⟨-, g, -⟩ | ⟨-, g⟩ | ⟨rfl, -, a, as', rfl, ha0, ha1⟩
    · omega
    · omega
    · have hna1 : mm_na 349 = 1 := by decide +kernel
      have hlen1 : as' = [] := by
        rw [hna1] at hna
        cases as' with
        | nil => rfl
        | cons z zs => simp at hna
      subst hlen1
      have hvn : v = none ∧ h1 = h := by
        cases n with
        | zero => simp [mm_ev] at hev
        | succ n =>
          have e1 : mm_stp none 349 (mm_ent 349 [.ref a]) h = some (.inr (.inl none)) := rfl
          rw [mm_ev, e1] at hev
          cases hev
          exact ⟨rfl, rfl⟩
      obtain ⟨rfl, rfl⟩ := hvn
      rcases T1 with ⟨-, T1⟩ | ⟨g, -⟩
      · show W p l e R s mid args below meth c H locs cells slots Q (F0 mid pc sl (mm_rv bs a :: rest.map (mm_cv xv bs)))
        rw [mm_rv_pos ha0]
        refine W.objInit hx hb hown T1 (T2 rfl).1 (hts _ (mm_code_in 349 (by omega))) rfl (by rw [hml]; exact hl.1) rfl hdec (by omega) (by show 2 * 0 + _ + 12 ≤ _; rw [mm_cat_cv hxc]; omega) ?_
        have := kk2 H locs hsz hP hS
        rw [Nat.sub_self, Nat.sub_self] at this
        exact this
      · omega
  · have hM := mm_met ih hev (show t < 349 by omega) hmx h0 (bs := bs) (cs := cs) (D := D) hxc hxr
    have hpre : PreS s H (va_Pc (as.map (mm_cv xv bs)) (mm_B bs cs xv D h)) (as.map (mm_cv xv bs)) := ⟨mm_B_blind bs cs xv D h _, fun U hU hW => ⟨rfl, mm_B_to hsz hP hS hK hnw hext U hU hW⟩⟩
    have hG : GoodIn mm_TT (mm_wsT t) := mm_good (mm_wsT_in ht)
    have hR : d + 1 + 1 ≤ R.frames ∧ 8 + (mm_maxL t + 11) + 64 * (d + 1) ≤ R.locals := ⟨hfr, by omega⟩
    have hcf : CallFix p mid c (mm_b m) (mm_maxL m) s args mm_TT (mm_on (mm_own m)) := ⟨hx, hb, hml, hown, hts⟩
    have hrm : 2 * (F0 mid pc sl ((as.map (mm_cv xv bs)).reverse ++ rest.map (mm_cv xv bs))).monitorRoom + ((rest.map (mm_cv xv bs)).map fun v => v.category).sum ≤ 8 := by
      show 2 * 0 + _ ≤ 8
      rw [mm_cat_cv hxc]; omega
    have hinit := T5 hobj
    refine mm_after (mc := h1.1 - h.1) (ms := mm_S h1.1 - mm_S h.1) (h' := h1) (r := v) (a := (as.map (mm_cv xv bs)).toArray) ?_ hS kk2
    -- a receiver's kind
    have recv : ∀ v0 as', as = v0 :: as' → mm_rcv t as h = true → ∃ b, mm_cv xv bs v0 = .ref b ∧ ∃ cellB : Cell, H[b]? = some cellB ∧ cellB.vm.isStatics = false ∧ s.vm.findClass (mm_y t).cls = some cellB.cls := by
      intro v0 as' hv0 hr
      rw [hv0] at hr
      unfold mm_rcv at hr
      split at hr
      · next a z hz =>
        cases hz
        obtain ⟨ha0, ha1, hsh⟩ := mm_isO_spec hr
        refine ⟨bs + a, mm_rv_pos ha0, ?_⟩
        have hc13 : mm_own t < 13 := by
          have g1 := mm_lv_get mm_shp a
          have g2 : (mm_lv mm_shp).all (fun x => !(Nat.beq x.1 0) || Nat.blt x.2 13) = true := by decide +kernel
          have g3 := List.all_eq_true.mp g2 _ g1
          rw [show mm_shp.get a = (0, mm_own t) from hsh] at g3
          have g4 : Nat.blt (mm_own t) 13 = true := by simpa using g3
          exact Nat.le_of_ble_eq_true g4
        obtain ⟨q, ty, hq, hqn, hqc, hqw, hqt, hqm, hqf⟩ := mm_vw (mm_own t) hc13
        have he : (mm_ws bs cs h)[a - 1]? = some (bs + a, .inr (mm_own t, mm_fs bs h (mm_own t) a)) := by
          rw [mm_ws_get bs cs h ha0 ha1, mm_cell_O hsh]
        have := va_recv hK hP hq he
        rw [hqc, ← y3] at this
        exact this
      · next a z hz =>
        cases hz
        simp only [Bool.and_eq_true, Nat.beq_eq] at hr
        obtain ⟨⟨g1, g2⟩, g3⟩ := hr
        have g2 : 1 ≤ a := Nat.le_of_ble_eq_true g2
        have g3 : a ≤ 2 := Nat.le_of_ble_eq_true g3
        obtain ⟨adK, adV, hSt, hR1, hR2, x1, x2, x3, x4, hZ1, hZ2⟩ := hext
        have hcls : (mm_y t).cls = "java/lang/String" := by rw [y3, g1]; rfl
        rw [hcls]
        rcases (show a = 1 ∨ a = 2 by omega) with rfl | rfl
        · exact ⟨adK 0, x1, vk_recv hSt (by omega) hS⟩
        · exact ⟨adK 1, x2, vk_recv hSt (by omega) hS⟩
      · cases hr
    rcases hkind with ⟨rfl, hk01, hr⟩ | ⟨rfl, hk23⟩ | ⟨rfl, hk45, a, as', rfl, ha0, ha1⟩
    · have hi : mm_inst kd = true := by rcases hk01 with rfl | rfl <;> rfl
      obtain ⟨g1, g2, g3⟩ := T2 hi
      obtain ⟨v0, as', rfl⟩ : ∃ v0 as', as = v0 :: as' := by
        cases as with
        | nil => rw [← hna] at g3; simp at g3
        | cons z zs => exact ⟨z, zs, rfl⟩
      obtain ⟨b, hb1, hcell⟩ := recv v0 as' rfl hr
      have hAs : (v0 :: as').map (mm_cv xv bs) = .ref b :: as'.map (mm_cv xv bs) := by rw [List.map_cons, hb1]
      rw [hAs] at hpre hM hrm ⊢
      have hn : (as'.map (mm_cv xv bs)).length = mm_na t - 1 := by rw [← hna]; simp
      have hd3 : (mm_y t).cls ≠ "java/lang/invoke/MethodHandle" ∧ (mm_y t).cls ≠ "java/lang/invoke/VarHandle" ∧ (parseMethodDescriptor (mm_y t).desc).map (fun d => d.parameters.length) = some (mm_na t - 1) := ⟨y2.1, y2.2, g2⟩
      have hst : (F0 mid pc sl ((Value.ref b :: as'.map (mm_cv xv bs)).reverse ++ rest.map (mm_cv xv bs))).stack = (as'.map (mm_cv xv bs)).reverse ++ .ref b :: rest.map (mm_cv xv bs) := by
        show (Value.ref b :: as'.map (mm_cv xv bs)).reverse ++ rest.map (mm_cv xv bs) = _
        simp
      rcases T1 with ⟨g, T1⟩ | ⟨g, T1⟩
      · exact va_runV hcf hM ⟨callB_of (mm_na t - 1) hts hG rfl rfl rfl hinit T1 hd3 hR, g1, T4 (by omega)⟩ ⟨hpre.1, hcell, hpre.2⟩ rfl hn hl.1 hst hrm hdec ⟨hce, hsl⟩
      · exact va_runVN hcf hM ⟨va_cnB (mm_na t - 1) hts hG rfl rfl rfl T1 hinit hd3 hR, g1, T4 (by omega)⟩ ⟨hpre.1, hcell, hpre.2⟩ rfl hn hl.1 hst hrm hdec ⟨hce, hsl⟩
    · have hi : mm_inst kd = false := by rcases hk23 with rfl | rfl <;> rfl
      obtain ⟨g1, g2⟩ := T3 hi
      have hn : (as.map (mm_cv xv bs)).length = mm_na t := by rw [← hna]; simp
      have hd3 : (mm_y t).cls ≠ "java/lang/invoke/MethodHandle" ∧ (mm_y t).cls ≠ "java/lang/invoke/VarHandle" ∧ (parseMethodDescriptor (mm_y t).desc).map (fun d => d.parameters.length) = some (mm_na t) := ⟨y2.1, y2.2, g2⟩
      rcases T1 with ⟨g, T1⟩ | ⟨g, T1⟩
      · exact va_runS hcf hM ⟨callB_of (mm_na t) hts hG rfl rfl rfl hinit T1 hd3 hR, g1⟩ hpre rfl hn hl.1 rfl hrm hdec ⟨hce, hsl⟩
      · exact va_runSN hcf hM ⟨va_cnB (mm_na t) hts hG rfl rfl rfl T1 hinit hd3 hR, g1, trivial⟩ hpre rfl hn hl.1 rfl hrm hdec ⟨hce, hsl⟩
    · have hi : mm_inst kd = true := by rcases hk45 with rfl | rfl <;> rfl
      obtain ⟨g1, g2, g3⟩ := T2 hi
      have hAs : (Value.ref a :: as').map (mm_cv xv bs) = .ref (bs + a) :: as'.map (mm_cv xv bs) := by rw [List.map_cons]; show mm_rv bs a :: _ = _; rw [mm_rv_pos ha0]
      rw [hAs] at hpre hM hrm ⊢
      have hn : (as'.map (mm_cv xv bs)).length = mm_na t - 1 := by rw [← hna]; simp
      have hd3 : (mm_y t).cls ≠ "java/lang/invoke/MethodHandle" ∧ (mm_y t).cls ≠ "java/lang/invoke/VarHandle" ∧ (parseMethodDescriptor (mm_y t).desc).map (fun d => d.parameters.length) = some (mm_na t - 1) := ⟨y2.1, y2.2, g2⟩
      have hst : (F0 mid pc sl ((Value.ref (bs + a) :: as'.map (mm_cv xv bs)).reverse ++ rest.map (mm_cv xv bs))).stack = (as'.map (mm_cv xv bs)).reverse ++ .ref (bs + a) :: rest.map (mm_cv xv bs) := by
        show (Value.ref (bs + a) :: as'.map (mm_cv xv bs)).reverse ++ rest.map (mm_cv xv bs) = _
        simp
      have hrt : mm_rt (mm_rk t) = none := by
        have hall : (mm_lv mm_ml).all (fun x => !(Nat.beq x.2.1 4 || Nat.beq x.2.1 5) || Nat.beq (mm_rk x.2.2) 0) = true := by decide +kernel
        have h2 := List.all_eq_true.mp hall _ (mm_lk_spec hlk)
        have h3 : (Nat.beq kd 4 || Nat.beq kd 5) = true := by simpa using hk45
        simp only [h3, Bool.not_true, Bool.false_or, Nat.beq_eq] at h2
        rw [h2]; rfl
      have hws : mm_wsT t = Cond.code (mm_y t) (mm_b t) (mm_maxL t) none :: mm_TT := by unfold mm_wsT; rw [hrt]
      rcases T1 with ⟨g, T1⟩ | ⟨g, T1⟩
      · exact va_runI hcf hM ⟨callB_of (mm_na t - 1) hts hG hws rfl rfl hinit T1 hd3 hR, T6 hk45, g1⟩ hpre rfl hn hl.1 hst hrm hdec ⟨hce, hsl⟩
      · exact va_runIN hcf hM ⟨va_cnB (mm_na t - 1) hts hG hws rfl rfl T1 hinit hd3 hR, T6 hk45, g1⟩ hpre rfl hn hl.1 hst hrm hdec ⟨hce, hsl⟩
end MMS8
