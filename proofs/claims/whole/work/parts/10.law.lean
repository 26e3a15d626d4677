/-! THE CLAIM OUT OF ONE WALK OF THE LAW'S BODY. Your part is whole_start (and what it stands on); all else here is the same for every law, but numbers. -/
def R_law : String := "BoardCrossingLaw"
def lw_P (b : Addr) (xs : List Int32) (args : Array Value) (s : State) : Prop := args = #[.ref b] ∧ s.IntsAt b xs ∧ xs.length ≤ 3072 ∧ (Jvm.Cond.and given_1 narrow_1).before args s = true
def lw_Q (_ : Array Value) (s : State) (o : Outcome) (t : State) : Prop := o = .returned (some (.int 1)) ∧ Framed s o t [] 600000 7302250
def lw_Z (below : List Frame) (a : Array Value) (s : State) : State → Prop := fun t => ∃ o, t.status = .running ∧ Ended t below o ∧ lw_Q a s o t
/-- the law's own end, with 1 on the stack, nothing written that was there before, its room as the claim has it -/
theorem lw_ret {p : Program} {l : Launch} {e : Env} {s : State} {m : MethodId} {below : List Frame} {meth : Method} {c : Code} {b : Nat} (hx : p.tables.exec = Jvm.exec) (hb : c.code = code) (hr : meth.sig.returnType = ret) (hlocks : meth.locks = false) {pc : Nat} {H : Heap} {ls : Array Slot} (hdg : decode code pc = .ok (.ireturn, 1)) : W p l e room_1 s m #[Value.ref b] below meth c H [] 600000 7302250 (lw_Z below #[Value.ref b] s) (F0 m pc ls [.int 1]) := by
  intro T hT X
  obtain ⟨fs, hret, hrun, hended, hW, hframe⟩ := X.leave (v := some (.int 1)) (hlocks := hlocks) (fun h => by rw [hr] at h; cases h)
  have hmeth' : T.vm.method? m = some meth := X.method'
  refine ⟨T.setFrames fs, ?_, .returned (some (.int 1)), hrun, hended, rfl, ⟨_, rfl⟩, hW, hframe⟩
  jvm_step X.here [X.here.top, hx, hb, hdg, hmeth', hr, ret, narrow_b1]
  (try refine ⟨rfl, ?_⟩); (try refine ⟨rfl, ?_⟩)
  first | (intro acts; rw [hret _ acts rfl rfl rfl]) | rw [hret _ _ rfl rfl rfl]
  exact Steps.refl _
/-- what holds at the law's entry: the machine, the code, the tables' words (any of lw_tbl by 'hts w (by decide +kernel)'), the script of L ints xs at the cell b, what the Statement gives of the start (any of its parts by flat_of_before) -/
def lw_At (p : Program) (s : State) (m : MethodId) (meth : Method) (c : Code) (b L : Nat) (xs : Nat → Int32) : Prop :=
  p.tables.exec = Jvm.exec ∧ c.code = code ∧ meth.sig.returnType = ret ∧ c.maxLocals = 4 ∧ s.vm.findClass R_law = some m.cls ∧ (∀ w ∈ lw_tbl, w.before #[Value.ref b] s = true) ∧ va_X b L xs s s.heap ∧ b < s.heap.size ∧ meth.locks = false ∧ (Jvm.Cond.and given_1 narrow_1).before #[Value.ref b] s = true
/-- the start: no cell of ours -/
def mm_h0 : mm_H := (1, fun _ _ => 0, fun _ _ => 0, fun _ _ => 0)
/-- what is to be shown of the small machine alone -/
def mm_Goal : Prop := ∀ (L : Nat) (xs : Nat → Int32), L ≤ 3072 → ∃ (n : Nat) (h' : mm_H), mm_ev (some (L, xs)) n 1000 350 (mm_ent 350 [.retAddr 0]) mm_h0 = some (some (.int 1), h') ∧ h'.1 ≤ 107
theorem lw_arr {s : State} {args : Array Value} {ty : FieldType} (hp : refKind ty = false) (h : (Cond.arrayClass ty).before args s = true) : ∃ cA : ClassId, ArrOfT s cA ty ∧ va_RA s cA ty := by
  obtain ⟨cA, kA, comp, hfind, hk, hkind⟩ := Cond.arrayClass_spec h
  refine ⟨cA, fun n z => ⟨fun k h => (by cases h), kA, hk, comp, hkind⟩, ?_⟩
  cases ty <;> first | exact hfind | (simp [refKind] at hp)
def lw_tm (i : Nat) : Term := .string "BoardCrossing$Reader" (match i with
  | 0 => 23
  | _ => 103)
set_option maxRecDepth 100000 in
theorem lw_el0 : ∀ j, j < mm_sb1.length → (Cond.eq (.elem (.field (lw_tm 0) "java/lang/String" "value" "[B") (.int (Int32.ofNat j))) (.int (mm_sb1.getD j 0))) ∈ flatC (Jvm.Cond.and given_1 narrow_1) := by decide +kernel
set_option maxRecDepth 100000 in
theorem lw_el1 : ∀ j, j < mm_sb2.length → (Cond.eq (.elem (.field (lw_tm 1) "java/lang/String" "value" "[B") (.int (Int32.ofNat j))) (.int (mm_sb2.getD j 0))) ∈ flatC (Jvm.Cond.and given_1 narrow_1) := by decide +kernel
set_option maxRecDepth 100000 in
set_option maxHeartbeats 4000000 in
/-- what the start's own cells are: the Strings and the two statics -/
theorem lw_ext {s : State} {args : Array Value} {bs : Nat} (hbs : s.heap.size = bs + 1) (hts : ∀ w ∈ lw_tbl, w.before args s = true) (hgv : (Jvm.Cond.and given_1 narrow_1).before args s = true) (v0 : Value) : ∃ xv : Nat → Value, xv 0 = v0 ∧ (v0.category = 1 → ∀ k, (xv k).category = 1) ∧ ((v0 = .null ∨ ∃ a, v0 = .ref a) → ∀ k, xv k = .null ∨ ∃ a, xv k = .ref a) ∧ mm_Ext bs xv s := by
  have hs := flat_of_before _ hgv
  have hA : ∀ a : Nat, a < s.heap.size → ¬ mm_A bs a := fun a ha z => by
    have : bs < a := z
    omega
  obtain ⟨adK, adV, hSt, hev⟩ := vk_Sof (args := args) (s := s) (N := 2) (tm := lw_tm) (len := [mm_sb1.length, mm_sb2.length]) (byt := [mm_sb1, mm_sb2]) (A := mm_A bs)
    (fun i hi => by rcases (show i = 0 ∨ i = 1 by omega) with rfl | rfl <;> decide)
    (fun i hi => by rcases (show i = 0 ∨ i = 1 by omega) with rfl | rfl <;> exact hs _ (by decide +kernel))
    (fun i hi => by rcases (show i = 0 ∨ i = 1 by omega) with rfl | rfl <;> exact hs _ (by decide +kernel))
    (fun i hi => by rcases (show i = 0 ∨ i = 1 by omega) with rfl | rfl <;> exact hs _ (by decide +kernel))
    (fun i hi => by rcases (show i = 0 ∨ i = 1 by omega) with rfl | rfl <;> exact hs _ (by decide +kernel))
    (fun i hi j hj => by
      rcases (show i = 0 ∨ i = 1 by omega) with rfl | rfl
      · exact hs _ (lw_el0 j hj)
      · exact hs _ (lw_el1 j hj))
    (fun i j hi hj hij => by
      rcases (show i = 0 ∨ i = 1 by omega) with rfl | rfl
      · rcases (show j = 1 by omega) with rfl
        exact Or.inl (hs _ (by decide +kernel))
      · rcases (show j = 0 by omega) with rfl
        exact Or.inr (hs _ (by decide +kernel)))
    hA
  have hZ1 : va_Z "java/lang/String" "COMPACT_STRINGS" "Z" (.int 1) (mm_A bs) s s.heap := va_Zof (hts (Cond.laysStatic "java/lang/String" "COMPACT_STRINGS" "Z") (mm_tab_in 1 _ (List.mem_of_getElem? (i := 173) (by decide +kernel)))) (hts (Cond.initialized "java/lang/String") (mm_tab_in 1 _ (List.mem_of_getElem? (i := 6) (by decide +kernel)))) (va_eqt (hs (Cond.eq (Term.static "java/lang/String" "COMPACT_STRINGS" "Z") (Term.int 1)) (by decide +kernel))) hA
  have hZ2 : va_Zq "jdk/internal/util/Preconditions" "SIOOBE_FORMATTER" "Ljava/util/function/BiFunction;" (mm_A bs) s s.heap := va_Zqof (hts (Cond.laysStatic "jdk/internal/util/Preconditions" "SIOOBE_FORMATTER" "Ljava/util/function/BiFunction;") (mm_tab_in 1 _ (List.mem_of_getElem? (i := 189) (by decide +kernel)))) (hts (Cond.initialized "jdk/internal/util/Preconditions") (mm_tab_in 1 _ (List.mem_of_getElem? (i := 8) (by decide +kernel)))) (hs (Cond.isRef (Term.static "jdk/internal/util/Preconditions" "SIOOBE_FORMATTER" "Ljava/util/function/BiFunction;")) (by decide +kernel)) hA
  have hR1 : vk_R RX4 23 mm_tx1 (adK 0) s := vk_R.of (hts (Cond.stringRef RX4 23 mm_tx1) (mm_tab_in 1 _ (List.mem_of_getElem? (i := 163) (by decide +kernel)))) (hev 0 (by omega))
  have hR2 : vk_R RX4 103 mm_tx2 (adK 1) s := vk_R.of (hts (Cond.stringRef RX4 103 mm_tx2) (mm_tab_in 3 _ (List.mem_of_getElem? (i := 132) (by decide +kernel)))) (hev 1 (by omega))
  obtain ⟨v5, hv5, hv5c⟩ : ∃ v5 : Value, va_Z "jdk/internal/util/Preconditions" "SIOOBE_FORMATTER" "Ljava/util/function/BiFunction;" v5 (mm_A bs) s s.heap ∧ (v5 = .null ∨ ∃ a, v5 = .ref a) := by
    rcases hZ2 with h | ⟨t, h⟩
    · exact ⟨_, h, Or.inl rfl⟩
    · exact ⟨_, h, Or.inr ⟨t, rfl⟩⟩
  refine ⟨fun k => match k with
    | 0 => v0
    | 1 => .ref (adK 0)
    | 2 => .ref (adK 1)
    | 3 => .ref (adV 0)
    | 4 => .ref (adV 1)
    | 5 => v5
    | _ => .null, rfl, ?_, ?_, adK, adV, hSt, hR1, hR2, rfl, rfl, rfl, rfl, hZ1, hv5⟩
  · intro h0 k
    match k with
    | 0 => exact h0
    | 1 => rfl
    | 2 => rfl
    | 3 => rfl
    | 4 => rfl
    | 5 => rcases hv5c with rfl | ⟨a, rfl⟩ <;> rfl
    | k + 6 => rfl
  · intro h0 k
    match k with
    | 0 => exact h0
    | 1 => exact Or.inr ⟨_, rfl⟩
    | 2 => exact Or.inr ⟨_, rfl⟩
    | 3 => exact Or.inr ⟨_, rfl⟩
    | 4 => exact Or.inr ⟨_, rfl⟩
    | 5 => exact hv5c
    | k + 6 => exact Or.inl rfl
set_option maxRecDepth 100000 in
set_option maxHeartbeats 4000000 in
/-- THE LAW, from its entry, if the small machine does as it should -/
theorem whole_start_open (G : mm_Goal) {p : Program} {e : Env} {s : State} {m : MethodId} {below : List Frame} {meth : Method} {c : Code} (l : Launch) {b L : Nat} {xs : Nat → Int32} (hL : L ≤ 3072) (C0 : lw_At p s m meth c b L xs) : W p l e room_1 s m #[Value.ref b] below meth c s.heap [] 0 0 (lw_Z below #[Value.ref b] s) (entryFrame m ([Value.ref b] : List Value).toArray 4) := by
  obtain ⟨hx, hb, hr, hml, hown, hts, hX, hbl, hlocks, hgv⟩ := C0
  obtain ⟨n, h', hev, hna⟩ := G L xs hL
  obtain ⟨bs, hbs⟩ : ∃ bs, s.heap.size = bs + 1 := ⟨s.heap.size - 1, by omega⟩
  obtain ⟨xv, hx0, hxc, hxr, hE⟩ := lw_ext hbs hts hgv (.ref b)
  have hxc := hxc rfl
  have hxr := hxr (Or.inr ⟨b, rfl⟩)
  obtain ⟨c0, i0, k0⟩ := u_known (C := RX0) (T := TX0) (N := 5) (n := 5) hts (fun w h => (List.mem_filter.mp (mm_vw0.2.2.2.1 w h)).1) (hts (.instantiable RX0 5) (mm_tab_in 1 _ (List.mem_of_getElem? (i := 38) (by decide +kernel))))
  obtain ⟨c1, i1, k1⟩ := u_known (C := RX1) (T := TX1) (N := 9) (n := 9) hts (fun w h => (List.mem_filter.mp (mm_vw1.2.2.2.1 w h)).1) (hts (.instantiable RX1 9) (mm_tab_in 2 _ (List.mem_of_getElem? (i := 196) (by decide +kernel))))
  obtain ⟨c2, i2, k2⟩ := u_known (C := RX2) (T := TX2) (N := 6) (n := 6) hts (fun w h => (List.mem_filter.mp (mm_vw2.2.2.2.1 w h)).1) (hts (.instantiable RX2 6) (mm_tab_in 2 _ (List.mem_of_getElem? (i := 62) (by decide +kernel))))
  obtain ⟨c3, i3, k3⟩ := u_known (C := RX3) (T := TX3) (N := 2) (n := 2) hts (fun w h => (List.mem_filter.mp (mm_vw3.2.2.2.1 w h)).1) (hts (.instantiable RX3 2) (mm_tab_in 2 _ (List.mem_of_getElem? (i := 89) (by decide +kernel))))
  obtain ⟨c4, i4, k4⟩ := u_known (C := RX4) (T := TX4) (N := 13) (n := 13) hts (fun w h => (List.mem_filter.mp (mm_vw4.2.2.2.1 w h)).1) (hts (.instantiable RX4 13) (mm_tab_in 1 _ (List.mem_of_getElem? (i := 158) (by decide +kernel))))
  obtain ⟨c5, i5, k5⟩ := u_known (C := RX5) (T := TX5) (N := 17) (n := 17) hts (fun w h => (List.mem_filter.mp (mm_vw5.2.2.2.1 w h)).1) (hts (.instantiable RX5 17) (mm_tab_in 1 _ (List.mem_of_getElem? (i := 32) (by decide +kernel))))
  obtain ⟨c6, i6, k6⟩ := u_known (C := RX6) (T := TX6) (N := 5) (n := 5) hts (fun w h => (List.mem_filter.mp (mm_vw6.2.2.2.1 w h)).1) (hts (.instantiable RX6 5) (mm_tab_in 2 _ (List.mem_of_getElem? (i := 103) (by decide +kernel))))
  obtain ⟨c7, i7, k7⟩ := u_known (C := RX7) (T := TX7) (N := 2) (n := 2) hts (fun w h => (List.mem_filter.mp (mm_vw7.2.2.2.1 w h)).1) (hts (.instantiable RX7 2) (mm_tab_in 2 _ (List.mem_of_getElem? (i := 19) (by decide +kernel))))
  obtain ⟨c8, i8, k8⟩ := u_known (C := RX8) (T := TX8) (N := 9) (n := 9) hts (fun w h => (List.mem_filter.mp (mm_vw8.2.2.2.1 w h)).1) (hts (.instantiable RX8 9) (mm_tab_in 2 _ (List.mem_of_getElem? (i := 126) (by decide +kernel))))
  obtain ⟨c9, i9, k9⟩ := u_known (C := RX9) (T := TX9) (N := 8) (n := 8) hts (fun w h => (List.mem_filter.mp (mm_vw9.2.2.2.1 w h)).1) (hts (.instantiable RX9 8) (mm_tab_in 2 _ (List.mem_of_getElem? (i := 164) (by decide +kernel))))
  obtain ⟨c10, i10, k10⟩ := u_known (C := RX10) (T := TX10) (N := 11) (n := 11) hts (fun w h => (List.mem_filter.mp (mm_vw10.2.2.2.1 w h)).1) (hts (.instantiable RX10 11) (mm_tab_in 2 _ (List.mem_of_getElem? (i := 235) (by decide +kernel))))
  obtain ⟨c11, i11, k11⟩ := u_known (C := RX11) (T := TX11) (N := 14) (n := 14) hts (fun w h => (List.mem_filter.mp (mm_vw11.2.2.2.1 w h)).1) (hts (.instantiable RX11 14) (mm_tab_in 1 _ (List.mem_of_getElem? (i := 24) (by decide +kernel))))
  obtain ⟨c12, i12, k12⟩ := u_known (C := RX12) (T := TX12) (N := 82) (n := 82) hts (fun w h => (List.mem_filter.mp (mm_vw12.2.2.2.1 w h)).1) (hts (.instantiable RX12 82) (mm_tab_in 7 _ (List.mem_of_getElem? (i := 12) (by decide +kernel))))
  obtain ⟨dC, dI, hKc⟩ : ∃ (dC : Nat → ClassId) (dI : Nat → Nat → Nat), ∀ (k : Nat) (q : vw_C), vwCl[k]? = some q → u_Kn s q.1 q.2.1 q.2.2 (dC k) (dI k) := by
    refine ⟨fun k => match k with
      | 0 => c0
      | 1 => c1
      | 2 => c2
      | 3 => c3
      | 4 => c4
      | 5 => c5
      | 6 => c6
      | 7 => c7
      | 8 => c8
      | 9 => c9
      | 10 => c10
      | 11 => c11
      | _ => c12, fun k => match k with
      | 0 => i0
      | 1 => i1
      | 2 => i2
      | 3 => i3
      | 4 => i4
      | 5 => i5
      | 6 => i6
      | 7 => i7
      | 8 => i8
      | 9 => i9
      | 10 => i10
      | 11 => i11
      | _ => i12, ?_⟩
    intro k q hq
    match k, hq with
    | 0, hq => cases hq; exact k0
    | 1, hq => cases hq; exact k1
    | 2, hq => cases hq; exact k2
    | 3, hq => cases hq; exact k3
    | 4, hq => cases hq; exact k4
    | 5, hq => cases hq; exact k5
    | 6, hq => cases hq; exact k6
    | 7, hq => cases hq; exact k7
    | 8, hq => cases hq; exact k8
    | 9, hq => cases hq; exact k9
    | 10, hq => cases hq; exact k10
    | 11, hq => cases hq; exact k11
    | 12, hq => cases hq; exact k12
    | k + 13, hq => simp [vwCl] at hq
  have hTT : ∀ w ∈ mm_TT, w.before #[Value.ref b] s = true := fun w hw => hts w (List.mem_filter.mp hw).1
  obtain ⟨aI, aI1, aI2⟩ := lw_arr rfl (hTT _ mm_ac_int)
  obtain ⟨aB, aB1, aB2⟩ := lw_arr rfl (hTT _ mm_ac_byte)
  obtain ⟨aZ, aZ1, aZ2⟩ := lw_arr rfl (hTT _ mm_ac_boolean)
  obtain ⟨aJ, aJ1, aJ2⟩ := lw_arr rfl (hTT _ mm_ac_long)
  have hK : va_K (dC, dI) vwCl (mm_tys (fun k => match k with
      | 1 => aI
      | 2 => aB
      | 3 => aZ
      | _ => aJ)) s := by
    refine ⟨hKc, fun k q hq => ?_⟩
    match k, hq with
    | 0, hq => cases hq; exact ⟨aI1, aI2⟩
    | 1, hq => cases hq; exact ⟨aB1, aB2⟩
    | 2, hq => cases hq; exact ⟨aZ1, aZ2⟩
    | 3, hq => cases hq; exact ⟨aJ1, aJ2⟩
    | k + 4, hq => simp [mm_tys] at hq
  have C : mm_Ctx p s m #[Value.ref b] meth c 350 bs _ xv (some (L, xs)) (dC, dI) := ⟨hx, hb, hml, hown, hTT, fun w hw => va_Nw.of (mm_nw_on w hw) (hts w (mm_nw_in w hw)), hK, by omega, by omega, fun z => absurd z (by decide +kernel), hxc, hxr, hE, b, hx0, hX, by omega⟩
  have hl := lv_entry ([.ref b]) (n := 4) (Nat.le_of_ble_eq_true rfl)
  rw [lg_entry_eq]
  generalize (lg_sl ([.ref b]) ++ List.replicate (4 - (lg_sl ([.ref b])).length) Slot.unset).toArray = ls at hl ⊢
  have hl2 : lv_has ls (mm_maxL 350) (mm_lvl xv bs (mm_ent 350 [.retAddr 0]).2.1) := by
    refine ⟨hl.1, hl.2.1, fun q hq => hl.2.2 q ?_⟩
    obtain ⟨v, g1, g2⟩ := mm_lvl_mem.mp hq
    obtain ⟨j, w⟩ := q
    have g1 : ([some (.retAddr 0), none, none, none] : List (Option Value))[j]? = some (some v) := g1
    match j, g1 with
    | 0, g1 =>
      cases g1
      have g2 : w = xv 0 := g2
      rw [hx0] at g2
      subst g2
      exact List.mem_cons_self
    | 1, g1 => cases g1
    | 2, g1 => cases g1
    | 3, g1 => cases g1
    | j + 4, g1 => simp at g1
  have hP : va_P (dC, dI) vwCl (mm_ws bs (fun k => match k with
      | 1 => aI
      | 2 => aB
      | 3 => aZ
      | _ => aJ) mm_h0) s.heap := fun k q hq => by
    have := (mm_ws_at hq).1
    have : k + 1 < 1 := this
    omega
  have hS7 : mm_S h'.1 ≤ 7302250 := Nat.le_trans (mm_S_le hna) (by decide +kernel)
  refine mm_sim l n (some (L, xs)) 1000 350 (mm_ent 350 [.retAddr 0]) mm_h0 _ h' hev C (sl := ls) (locs := []) ⟨hbs, Nat.one_pos, hP, va_S.rf, hl2⟩ (by decide) (by decide) (by show 0 + (h'.1 - 1) ≤ 600000; omega) (by show 0 + (mm_S h'.1 - mm_S 1) ≤ 7302250; omega) ?_
  intro pcR sl' H' locs' z1 z2 z3 z4
  obtain ⟨z5, -⟩ := z4
  refine va_forget (fun q hq => ?_) ?_
  · have : bs < q.base := z3.2.2 q hq
    omega
  refine W.widen (k := 600000) (n := 7302250) (by show 0 + (h'.1 - 1) ≤ 600000; omega) (by show 0 + (mm_S h'.1 - mm_S 1) ≤ 7302250; omega) ?_
  exact lw_ret hx hb hr hlocks z5
