/-! Calls: a method's contract out of its own run. -/
def mm_wsT (t : Nat) : List Cond := Cond.code (mm_y t) (mm_b t) (mm_maxL t) (mm_rt (mm_rk t)) :: mm_TT
def mm_B (bs : Nat) (cs : Nat → ClassId) (xv : Nat → Value) (D : va_G) (h : mm_H) (U : State) : Prop := U.heap.size = bs + h.1 ∧ va_P D vwCl (mm_ws bs cs h) U.heap ∧ va_K D vwCl (mm_tys cs) U ∧ (∀ w ∈ mm_nw, va_Nw w U) ∧ mm_Ext bs xv U
def mm_Qc (bs : Nat) (cs : Nat → ClassId) (xv : Nat → Value) (D : va_G) (h' : mm_H) (r : Option Value) : Array Value → State → Outcome → State → Prop := fun _ st o u => o = .returned (r.map (mm_cv xv bs)) ∧ u.heap.size = bs + h'.1 ∧ va_P D vwCl (mm_ws bs cs h') u.heap ∧ va_F (mm_A bs) st u
def mm_RO (m : Nat) (r : Option Value) (pcR : Nat) : Prop := match r with
  | none => decode (mm_b m) pcR = .ok (.return_, 1) ∧ mm_rt (mm_rk m) = none
  | some (.int x) => decode (mm_b m) pcR = .ok (.ireturn, 1) ∧ ∃ ty, mm_rt (mm_rk m) = some ty ∧ narrow ty (.int x) = .int x
  | some (.long _) => decode (mm_b m) pcR = .ok (.lreturn, 1) ∧ mm_rt (mm_rk m) = some .long
  | _ => False
def mm_Sim (l : Launch) (n : Nat) : Prop := ∀ (X : mm_X) (d m : Nat) (f : mm_F) (h : mm_H) (r : Option Value) (h' : mm_H), mm_ev X n d m f h = some (r, h') → ∀ {p : Program} {e : Env} {R : Room} {s : State} {mid : MethodId} {args : Array Value} {below : List Frame} {meth : Method} {c : Code} {H : Heap} {locs : List Loc} {cells slots : Nat} {Q : State → Prop} {bs : Nat} {cs : Nat → ClassId} {xv : Nat → Value} {D : va_G} {sl : Array Slot},
  mm_Ctx p s mid args meth c m bs cs xv X D → mm_Dyn s m bs cs xv D f.2.1 h sl H locs → d + 1 ≤ R.frames → 64 * (d + 1) ≤ R.locals → cells + (h'.1 - h.1) ≤ R.cells → slots + (mm_S h'.1 - mm_S h.1) ≤ R.slots →
  (∀ (pcR : Nat) (sl' : Array Slot) (H' : Heap) (locs' : List Loc), H'.size = bs + h'.1 → va_P D vwCl (mm_ws bs cs h') H' → va_S (mm_A bs) s.heap H' locs' → mm_RO m r pcR → W p l e R s mid args below meth c H' locs' (cells + (h'.1 - h.1)) (slots + (mm_S h'.1 - mm_S h.1)) Q (F0 mid pcR sl' (r.toList.map (mm_cv xv bs)))) →
  W p l e R s mid args below meth c H locs cells slots Q (F0 mid f.1 sl (f.2.2.map (mm_cv xv bs)))
theorem mm_Ext.to {bs : Nat} {xv : Nat → Value} {s U : State} {H : Heap} {locs : List Loc} (hE : mm_Ext bs xv s) (hS : va_S (mm_A bs) s.heap H locs) (hU : U.heap = H) (hW : s.WarmedH U.vm) : mm_Ext bs xv U := by
  obtain ⟨adK, adV, hSt, hR1, hR2, x1, x2, x3, x4, hZ1, hZ2⟩ := hE
  refine ⟨adK, adV, ?_, vk_R.warm hW hR1, vk_R.warm hW hR2, x1, x2, x3, x4, ?_, ?_⟩
  · rw [hU]; exact (hSt.kept hS.2.1).moved hW.alike
  · rw [hU]; exact (hZ1.kept hS.2.1).moved hW.alike
  · rw [hU]; exact (hZ2.kept hS.2.1).moved hW.alike
theorem mm_nw_on : ∀ w ∈ mm_nw, w.onTables = true := by
  intro w hw
  obtain ⟨q, -, rfl⟩ := List.mem_map.mp hw
  rfl
theorem mm_nw_warm {s U : State} (hW : s.WarmedH U.vm) (h : ∀ w ∈ mm_nw, va_Nw w s) : ∀ w ∈ mm_nw, va_Nw w U := by
  intro w hw
  have h1 := h w hw
  obtain ⟨q, -, rfl⟩ := List.mem_map.mp hw
  exact va_Nw.warmM hW h1
theorem mm_B_blind (bs : Nat) (cs : Nat → ClassId) (xv : Nat → Value) (D : va_G) (h : mm_H) (av : List Value) : FrameBlind (va_Pc av (mm_B bs cs xv D h)) := by
  rintro a U g mk ⟨rfl, q1, q2, q3, q4, q5⟩
  refine ⟨rfl, q1, q2, va_K.moved (u := U) (U := U.calling g mk _) (Vm.Alike.refl U.vm) q3, fun w hw => va_Nw.same (mm_nw_on w hw) (u := U) rfl (q4 w hw), ?_⟩
  obtain ⟨adK, adV, hSt, hR1, hR2, x1, x2, x3, x4, hZ1, hZ2⟩ := q5
  exact ⟨adK, adV, vk_S.moved (u := U) (Vm.Alike.refl U.vm) hSt, vk_R.same (u := U) rfl hR1, vk_R.same (u := U) rfl hR2, x1, x2, x3, x4, va_Z.moved (u := U) (Vm.Alike.refl U.vm) hZ1, va_Z.moved (u := U) (Vm.Alike.refl U.vm) hZ2⟩
theorem mm_B_to {bs : Nat} {cs : Nat → ClassId} {xv : Nat → Value} {D : va_G} {h : mm_H} {s : State} {H : Heap} {locs : List Loc} (hsz : H.size = bs + h.1) (hP : va_P D vwCl (mm_ws bs cs h) H) (hS : va_S (mm_A bs) s.heap H locs) (hK : va_K D vwCl (mm_tys cs) s) (hnw : ∀ w ∈ mm_nw, va_Nw w s) (hE : mm_Ext bs xv s) (U : State) (hU : U.heap = H) (hW : s.WarmedH U.vm) : mm_B bs cs xv D h U :=
  ⟨by rw [hU]; exact hsz, by rw [hU]; exact hP, va_K.moved hW.alike hK, mm_nw_warm hW hnw, hE.to hS hU hW⟩
def mm_yok (t : Nat) : Bool := (Nat.ble 349 t || plainFor (mm_y t)) && decide ((mm_y t).cls ≠ "java/lang/invoke/MethodHandle" ∧ (mm_y t).cls ≠ "java/lang/invoke/VarHandle") && decide ((mm_y t).cls = mm_on (mm_own t)) && (!(mm_isI t) || decide ((mm_y t).name = "<init>")) && Nat.ble (mm_maxL t) 45
set_option maxRecDepth 100000 in
theorem mm_yok_all : ∀ t, t < 351 → mm_yok t = true := by
  have h : (List.range 351).all mm_yok = true := by decide +kernel
  intro t ht
  exact List.all_eq_true.mp h t (List.mem_range.mpr ht)
theorem mm_yok_spec {t : Nat} (ht : t < 351) : (t < 349 → plainFor (mm_y t) = true) ∧ ((mm_y t).cls ≠ "java/lang/invoke/MethodHandle" ∧ (mm_y t).cls ≠ "java/lang/invoke/VarHandle") ∧ (mm_y t).cls = mm_on (mm_own t) ∧ (mm_isI t = true → (mm_y t).name = "<init>") ∧ mm_maxL t ≤ 45 := by
  have h := mm_yok_all t ht
  unfold mm_yok at h
  simp only [Bool.and_eq_true, decide_eq_true_eq, Bool.or_eq_true, Bool.not_eq_true'] at h
  obtain ⟨⟨⟨⟨h1, h2⟩, h3⟩, h4⟩, h5⟩ := h
  refine ⟨fun z => ?_, h2, h3, fun z => ?_, Nat.le_of_ble_eq_true h5⟩
  · rcases h1 with h1 | h1
    · exact absurd (Nat.le_of_ble_eq_true h1) (by omega)
    · exact h1
  rcases h4 with h4 | h4
  · rw [z] at h4; cases h4
  · exact h4
theorem mm_ofW {l : Launch} {y : MethodName} {ws ws' : List Cond} {rm : Room} {Pc : Array Value → State → Prop} {Qc : Array Value → State → Outcome → State → Prop} {mc ms : Nat} {free : Addr → Prop} {cc : ByteArray} {maxL : Nat} {ret : Option FieldType}
    (hy : plainFor y = true) (hw : ws = Cond.code y cc maxL ret :: ws')
    (body : ∀ p e s m args below meth c s₁, BodyLoose p l y (headSpec ws rm) cc maxL ret e s m args below meth c s₁ → c.maxLocals = maxL → Pc args s →
      W p l e (headSpec ws rm).room s m args below meth c s.heap [] 0 0 (MQ below Qc args s mc ms free) (entryFrame m args maxL)) : Met l y ws rm Pc Qc mc ms free := by
  refine MetFree.of_bodySF (code := cc) (maxLocals := maxL) (ret := ret) hy ?_ ?_
  · intro args s m h hn
    obtain ⟨meth, c, h1, h2, h3, h4, h5, h6, -, -⟩ := Cond.code_spec hn (atoms_spec (ws := ws) h _ (by rw [hw]; exact List.mem_cons_self))
    exact ⟨meth, c, h1, h2, h3, h4, h5, h6⟩
  · intro p e s m args below meth c s₁ B hml hP _
    have hh0 : s₁.heap = s.heap := by rw [B.state]; rfl
    obtain ⟨t, a1, o, b1, b2, b3⟩ := body p e s m args below meth c s₁ B hml hP s₁ hh0 (Stand.of_body B)
    exact ⟨t, o, a1, b1, b2, ⟨b3.1, b3.2⟩⟩
/-- the locals at a method's entry -/
theorem mm_ent_mem {xv : Nat → Value} (hxc : ∀ k, (xv k).category = 1) {bs : Nat} : ∀ (as : List Value) (i j : Nat) (v : Value), (mm_sl as)[j]? = some (some v) → (i + j, mm_cv xv bs v) ∈ lv_args i (as.map (mm_cv xv bs))
  | [], i, j, v, hj => by simp [mm_sl] at hj
  | w :: r, i, j, v, hj => by
    rw [mm_sl] at hj
    rw [List.map_cons, lv_args, List.mem_cons]
    cases j with
    | zero => left; simp at hj; subst hj; rfl
    | succ j =>
      right
      rw [List.getElem?_cons_succ] at hj
      rw [mm_cv_cat hxc]
      cases hb : Nat.beq w.category 2 with
      | true =>
        rw [hb, cond_true] at hj
        have e : w.category = 2 := Nat.eq_of_beq_eq_true hb
        rw [if_pos e]
        cases j with
        | zero => simp at hj
        | succ j =>
          rw [List.getElem?_cons_succ] at hj
          have := mm_ent_mem hxc (bs := bs) r (i + 2) j v hj
          rw [show i + (j + 1 + 1) = i + 2 + j by omega]
          exact this
      | false =>
        rw [hb, cond_false] at hj
        have e : ¬ w.category = 2 := fun z => by rw [z] at hb; cases hb
        rw [if_neg e]
        have := mm_ent_mem hxc (bs := bs) r (i + 1) j v hj
        rw [show i + (j + 1) = i + 1 + j by omega]
        exact this
theorem mm_sl_len {xv : Nat → Value} (hxc : ∀ k, (xv k).category = 1) {bs : Nat} : ∀ (as : List Value), (lg_sl (as.map (mm_cv xv bs))).length = (mm_sl as).length
  | [] => rfl
  | w :: r => by
    have ih := mm_sl_len hxc (bs := bs) r
    rw [mm_sl, List.map_cons]
    unfold lg_sl at ih ⊢
    rw [List.flatMap_cons, List.length_append, ih, mm_cv_cat hxc]
    cases hb : Nat.beq w.category 2 with
    | true =>
      have e : w.category = 2 := Nat.eq_of_beq_eq_true hb
      rw [if_pos e]; simp; omega
    | false =>
      have e : ¬ w.category = 2 := fun z => by rw [z] at hb; cases hb
      rw [if_neg e]; simp; omega
set_option maxHeartbeats 4000000 in
theorem mm_met {l : Launch} {n : Nat} (ih : mm_Sim l n) {d t : Nat} {as : List Value} {h h' : mm_H} {r : Option Value} (hev : mm_ev none n d t (mm_ent t as) h = some (r, h')) (ht : t < 349) (hlen : (mm_sl as).length ≤ mm_maxL t) (h0 : 0 < h.1) {bs : Nat} {cs : Nat → ClassId} {xv : Nat → Value} {D : va_G} (hxc : ∀ k, (xv k).category = 1) (hxr : ∀ k, xv k = .null ∨ ∃ a, xv k = .ref a) :
    Met l (mm_y t) (mm_wsT t) ({ frames := d + 1, cells := h'.1 - h.1, slots := mm_S h'.1 - mm_S h.1, locals := 64 * (d + 1) }) (va_Pc (as.map (mm_cv xv bs)) (mm_B bs cs xv D h)) (mm_Qc bs cs xv D h' r) (h'.1 - h.1) (mm_S h'.1 - mm_S h.1) (mm_A bs) := by
  obtain ⟨y1, y2, y3, y4, y5⟩ := mm_yok_spec (t := t) (by omega)
  refine mm_ofW (cc := mm_b t) (maxL := mm_maxL t) (ret := mm_rt (mm_rk t)) (y1 ht) rfl ?_
  intro p e s m args below meth c s₁ B hml hv
  obtain ⟨rfl, hsz, hP, hK, hnw, hE⟩ := hv
  have hts := atoms_spec (ws := mm_wsT t) B.pre
  have hown : s.vm.findClass (mm_on (mm_own t)) = some m.cls := by rw [← y3]; exact findClass_of_methodNamed B.named
  have hlocks := B.notSynchronized
  have hr := B.returns
  have C : mm_Ctx p s m (as.map (mm_cv xv bs)).toArray meth c t bs cs xv none D := ⟨B.exec, B.bytes, hml, hown, fun w hw => hts w (List.mem_cons_of_mem _ hw), hnw, hK, by rw [hsz]; omega, by omega, fun z => by rw [(name_of_methodNamed B.named B.method).1]; exact y4 z, hxc, hxr, hE, trivial⟩
  have hl := lv_entry (as.map (mm_cv xv bs)) (n := mm_maxL t) (by rw [mm_sl_len hxc]; exact hlen)
  rw [lg_entry_eq]
  generalize hls : (lg_sl (as.map (mm_cv xv bs)) ++ List.replicate (mm_maxL t - (lg_sl (as.map (mm_cv xv bs))).length) Slot.unset).toArray = ls at hl ⊢
  have hl2 : lv_has ls (mm_maxL t) (mm_lvl xv bs (mm_ent t as).2.1) := by
    refine ⟨hl.1, hl.2.1, fun q hq => hl.2.2 q ?_⟩
    obtain ⟨v, g1, g2⟩ := mm_lvl_mem.mp hq
    have g3 : (mm_sl as)[q.1]? = some (some v) := by
      have g1 : (mm_sl as ++ List.replicate (mm_maxL t - (mm_sl as).length) none)[q.1]? = some (some v) := g1
      by_cases hlt : q.1 < (mm_sl as).length
      · rw [List.getElem?_append_left hlt] at g1; exact g1
      · rw [List.getElem?_append_right (by omega), List.getElem?_replicate] at g1
        split at g1
        · cases g1
        · cases g1
    have := mm_ent_mem hxc (bs := bs) as 0 q.1 v g3
    rw [Nat.zero_add, ← g2] at this
    exact this
  refine ih none d t (mm_ent t as) h r h' hev C (sl := ls) (locs := []) ⟨hsz, h0, hP, va_S.rf, hl2⟩ (Nat.le_refl _) (Nat.le_refl _) (by show 0 + _ ≤ _; rw [Nat.zero_add]; exact Nat.le_refl _) (by show 0 + _ ≤ _; rw [Nat.zero_add]; exact Nat.le_refl _) ?_
  intro pcR sl' H' locs' z1 z2 z3 z4
  rw [Nat.zero_add, Nat.zero_add]
  have hq : ∀ u : State, u.heap = H' → s.WarmedH u.vm → mm_Qc bs cs xv D h' r (as.map (mm_cv xv bs)).toArray s (.returned (r.map (mm_cv xv bs))) u := fun u hu _ => ⟨rfl, by rw [hu]; exact z1, by rw [hu]; exact z2, z3.F hu⟩
  unfold mm_RO at z4
  split at z4
  · rw [z4.2] at hr
    exact W.vret B.exec B.bytes hr hq z3.2.2 z4.1
  · obtain ⟨z5, ty, z6, z7⟩ := z4
    rw [z6] at hr
    exact W.zret B.exec B.bytes hr z7 hq z3.2.2 z5
  · rw [z4.2] at hr
    exact W.lret B.exec B.bytes hr hq z3.2.2 z4.1
  · exact z4.elim
/-- behind a call -/
theorem mm_after {p : Program} {l : Launch} {e : Env} {R : Room} {s : State} {mid : MethodId} {args : Array Value} {below : List Frame} {meth : Method} {c : Code} {H : Heap} {locs : List Loc} {cells slots mc ms pc : Nat} {Q : State → Prop} {sl : Array Slot} {st0 rest : List Value} {a : Array Value} {bs : Nat} {cs : Nat → ClassId} {xv : Nat → Value} {D : va_G} {h' : mm_H} {r : Option Value}
    (hr : va_Run p l e R s mid args below meth c H locs cells slots mc ms (F0 mid pc sl st0) rest (mm_Qc bs cs xv D h' r a) (mm_A bs)) (hS : va_S (mm_A bs) s.heap H locs)
    (kk : ∀ (H1 : Heap) (locs1 : List Loc), H1.size = bs + h'.1 → va_P D vwCl (mm_ws bs cs h') H1 → va_S (mm_A bs) s.heap H1 locs1 → W p l e R s mid args below meth c H1 locs1 (cells + mc) (slots + ms) Q (F0 mid (pc + 3) sl ((r.map (mm_cv xv bs)).toList ++ rest))) : W p l e R s mid args below meth c H locs cells slots Q (F0 mid pc sl st0) := by
  intro T hT X
  obtain ⟨v, st₀, t, T', L, g0, X', hL, e1, e2, ⟨hv, hz, hP, hk1, hk2⟩, st⟩ := hr T hT X
  cases hv
  rw [g0] at hk1 hk2
  obtain ⟨t2, a1, b1⟩ := kk T'.heap (locs ++ L) (by rw [e1]; exact hz) (by rw [e1]; exact hP)
    ⟨Nat.le_trans hS.1 (by rw [e1]; exact hk1), fun q h1 h2 => by rw [e1, hk2 q (Nat.lt_of_lt_of_le h1 hS.1) h2]; exact hS.2.1 q h1 h2, fun q hq => by
      rcases List.mem_append.mp hq with h | h
      · exact hS.2.2 q h
      · exact hL q h⟩ T' rfl X'
  exact ⟨t2, st t2 a1, b1⟩
