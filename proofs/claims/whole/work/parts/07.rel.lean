/-! The small heap as a world of the machine: cell number a lies at bs + a. -/
def mm_rv (bs a : Nat) : Value := match a with
  | 0 => .null
  | a + 1 => .ref (bs + (a + 1))
def mm_cv (xv : Nat → Value) (bs : Nat) (v : Value) : Value := match v with
  | .ref a => mm_rv bs a
  | .retAddr k => xv k
  | v => v
theorem mm_rv_pos {bs a : Nat} (h : 0 < a) : mm_rv bs a = .ref (bs + a) := by
  cases a with
  | zero => exact absurd h (by omega)
  | succ a => rfl
theorem mm_cv_cat {xv : Nat → Value} {bs : Nat} (hx : ∀ k, (xv k).category = 1) (v : Value) : (mm_cv xv bs v).category = v.category := by
  cases v with
  | ref a => cases a <;> rfl
  | retAddr k => exact hx k
  | _ => rfl
def mm_fv (bs : Nat) (h : mm_H) (ci a k : Nat) : Value := match mm_lk mm_fk (ci * 100 + k) with
  | some (1, _) => .long (h.2.2.1 a k)
  | some (2, _) => mm_rv bs (h.2.2.2 a k)
  | _ => .int (h.2.1 a k)
def mm_fs (bs : Nat) (h : mm_H) (ci a : Nat) : List Value := (List.range (mm_fn.getD ci 0)).map (mm_fv bs h ci a)
def mm_cell (bs : Nat) (cs : Nat → ClassId) (h : mm_H) (a : Nat) : va_E := match (mm_sh a).1 with
  | 0 => .inr ((mm_sh a).2, mm_fs bs h (mm_sh a).2 a)
  | 4 => .inl (cs 4, (mm_sh a).2, .inr (.inl (h.2.2.1 a)))
  | kd => .inl (cs kd, (mm_sh a).2, .inl (h.2.1 a))
def mm_ws (bs : Nat) (cs : Nat → ClassId) (h : mm_H) : va_W := (List.range (h.1 - 1)).map (fun i => (bs + (i + 1), mm_cell bs cs h (i + 1)))
def mm_tys (cs : Nat → ClassId) : List (ClassId × FieldType) := [(cs 1, .int), (cs 2, .byte), (cs 3, .boolean), (cs 4, .long)]
theorem mm_ws_len (bs : Nat) (cs : Nat → ClassId) (h : mm_H) : (mm_ws bs cs h).length = h.1 - 1 := by simp [mm_ws]
theorem mm_ws_get (bs : Nat) (cs : Nat → ClassId) (h : mm_H) {a : Nat} (h0 : 0 < a) (h1 : a < h.1) : (mm_ws bs cs h)[a - 1]? = some (bs + a, mm_cell bs cs h a) := by
  have e : a - 1 + 1 = a := by omega
  rw [mm_ws, List.getElem?_map, List.getElem?_range (by omega)]
  simp [e]
theorem mm_ws_at {bs : Nat} {cs : Nat → ClassId} {h : mm_H} {k : Nat} {q : Nat × va_E} (e : (mm_ws bs cs h)[k]? = some q) : k + 1 < h.1 ∧ q = (bs + (k + 1), mm_cell bs cs h (k + 1)) := by
  have hl : k < (mm_ws bs cs h).length := (List.getElem?_eq_some_iff.mp e).1
  rw [mm_ws_len] at hl
  have := mm_ws_get bs cs h (a := k + 1) (by omega) (by omega)
  rw [show k + 1 - 1 = k by omega, e] at this
  exact ⟨by omega, Option.some.inj this⟩
theorem mm_ws_ext {bs : Nat} {cs : Nat → ClassId} {h : mm_H} {w : va_W} (hl : w.length = h.1 - 1) (hw : ∀ a, 0 < a → a < h.1 → w[a - 1]? = some (bs + a, mm_cell bs cs h a)) : w = mm_ws bs cs h := by
  apply List.ext_getElem?
  intro i
  by_cases hi : i < h.1 - 1
  · have := hw (i + 1) (by omega) (by omega)
    rw [show i + 1 - 1 = i by omega] at this
    rw [this]
    have := mm_ws_get bs cs h (a := i + 1) (by omega) (by omega)
    rw [show i + 1 - 1 = i by omega] at this
    exact this.symm
  · rw [List.getElem?_eq_none (by omega), List.getElem?_eq_none (by rw [mm_ws_len]; omega)]
theorem mm_ws_set {bs : Nat} {cs : Nat → ClassId} {h h' : mm_H} {a : Nat} (hn : h'.1 = h.1) (h0 : 0 < a) (h1 : a < h.1) (hc : ∀ b, b ≠ a → mm_cell bs cs h' b = mm_cell bs cs h b) {e : va_E} (he : mm_cell bs cs h' a = e) : (mm_ws bs cs h).set (a - 1) (bs + a, e) = mm_ws bs cs h' := by
  apply mm_ws_ext
  · rw [List.length_set, mm_ws_len, hn]
  · intro b hb0 hb1
    by_cases hab : b = a
    · subst hab
      rw [List.getElem?_set_self (by rw [mm_ws_len]; omega), he]
    · rw [List.getElem?_set_ne (by omega), mm_ws_get bs cs h hb0 (by omega), hc b hab]
theorem mm_ws_push {bs : Nat} {cs : Nat → ClassId} {h h' : mm_H} (hn : h'.1 = h.1 + 1) (h0 : 0 < h.1) (hc : ∀ b, b < h.1 → mm_cell bs cs h' b = mm_cell bs cs h b) {e : va_E} (he : mm_cell bs cs h' h.1 = e) : mm_ws bs cs h ++ [(bs + h.1, e)] = mm_ws bs cs h' := by
  apply mm_ws_ext
  · rw [List.length_append, mm_ws_len, hn]; simp; omega
  · intro b hb0 hb1
    by_cases hab : b = h.1
    · subst hab
      rw [List.getElem?_append_right (by rw [mm_ws_len]; omega), mm_ws_len, Nat.sub_self, he]
      rfl
    · rw [List.getElem?_append_left (by rw [mm_ws_len]; omega), mm_ws_get bs cs h hb0 (by omega), hc b (by omega)]
/-- what may be written: all cells behind bs -/
def mm_A (bs : Nat) : Nat → Prop := fun q => bs < q
theorem mm_ws_D (bs : Nat) (cs : Nat → ClassId) (h : mm_H) : va_D (mm_A bs) (mm_ws bs cs h) := by
  refine ⟨fun i j p q hp hq e => ?_, fun k q hq => ?_⟩
  · rw [(mm_ws_at hp).2, (mm_ws_at hq).2] at e
    have : bs + (i + 1) = bs + (j + 1) := e
    omega
  · rw [(mm_ws_at hq).2]
    show bs < bs + (k + 1)
    omega
theorem mm_isO_spec {a ci na : Nat} (e : mm_isO a ci na = true) : 0 < a ∧ a < na ∧ mm_sh a = (0, ci) := by
  unfold mm_isO at e
  simp only [Bool.and_eq_true, Nat.beq_eq] at e
  obtain ⟨⟨e1, e2⟩, e3⟩ := e
  have e1 : a < na := Nat.le_of_ble_eq_true e1
  have h3 : mm_sh a = (0, ci) := Prod.ext e2 e3
  refine ⟨Nat.pos_of_ne_zero fun z => ?_, e1, h3⟩
  subst z
  have h9 : (mm_sh 0).1 = 9 := by decide +kernel
  rw [h3] at h9
  exact absurd (show (0 : Nat) = 9 from h9) (by decide)
theorem mm_isA_spec {a kd na : Nat} (e : mm_isA a kd na = true) (hk : kd ≤ 4) : 0 < a ∧ a < na ∧ mm_sh a = (kd, mm_len a) := by
  unfold mm_isA at e
  simp only [Bool.and_eq_true, Nat.beq_eq] at e
  obtain ⟨e1, e2⟩ := e
  have e1 : a < na := Nat.le_of_ble_eq_true e1
  refine ⟨Nat.pos_of_ne_zero fun z => ?_, e1, Prod.ext e2 rfl⟩
  subst z
  have : (mm_sh 0).1 = 9 := by decide +kernel
  omega
theorem mm_cell_O {bs : Nat} {cs : Nat → ClassId} {h : mm_H} {a ci : Nat} (e : mm_sh a = (0, ci)) : mm_cell bs cs h a = .inr (ci, mm_fs bs h ci a) := by
  unfold mm_cell; rw [e]; rfl
theorem mm_cell_I {bs : Nat} {cs : Nat → ClassId} {h : mm_H} {a kd n : Nat} (e : mm_sh a = (kd, n)) (hk : kd = 1 ∨ kd = 2 ∨ kd = 3) : mm_cell bs cs h a = .inl (cs kd, n, .inl (h.2.1 a)) := by
  unfold mm_cell; rw [e]
  rcases hk with rfl | rfl | rfl <;> rfl
theorem mm_cell_J {bs : Nat} {cs : Nat → ClassId} {h : mm_H} {a n : Nat} (e : mm_sh a = (4, n)) : mm_cell bs cs h a = .inl (cs 4, n, .inr (.inl (h.2.2.1 a))) := by
  unfold mm_cell; rw [e]; rfl
theorem mm_cell_cong {bs : Nat} {cs : Nat → ClassId} {h h' : mm_H} {a : Nat} (h1 : h'.2.1 a = h.2.1 a) (h2 : h'.2.2.1 a = h.2.2.1 a) (h3 : h'.2.2.2 a = h.2.2.2 a) : mm_cell bs cs h' a = mm_cell bs cs h a := by
  have hf : ∀ ci, mm_fs bs h' ci a = mm_fs bs h ci a := by
    intro ci
    unfold mm_fs
    refine List.map_congr_left fun k _ => ?_
    unfold mm_fv
    rw [h1, h2, h3]
  unfold mm_cell
  rw [h1, h2, hf]
theorem mm_fs_get {bs : Nat} {h : mm_H} {ci a k : Nat} (hk : k < mm_fn.getD ci 0) : (mm_fs bs h ci a)[k]? = some (mm_fv bs h ci a k) := by
  rw [mm_fs, List.getElem?_map, List.getElem?_range hk]; rfl
theorem mm_fs_len {bs : Nat} {h : mm_H} {ci a : Nat} : (mm_fs bs h ci a).length = mm_fn.getD ci 0 := by simp [mm_fs]
theorem mm_fs_set {bs : Nat} {h h' : mm_H} {ci a k : Nat} {v : Value} (hk : k < mm_fn.getD ci 0) (hv : mm_fv bs h' ci a k = v) (ho : ∀ j, j ≠ k → mm_fv bs h' ci a j = mm_fv bs h ci a j) : (mm_fs bs h ci a).set k v = mm_fs bs h' ci a := by
  apply List.ext_getElem?
  intro j
  by_cases hj : j < mm_fn.getD ci 0
  · rw [mm_fs_get hj]
    by_cases e : j = k
    · subst e
      rw [List.getElem?_set_self (by rw [mm_fs_len]; exact hj), hv]
    · rw [List.getElem?_set_ne (by omega), mm_fs_get hj, ho j e]
  · rw [List.getElem?_eq_none (by rw [List.length_set, mm_fs_len]; omega), List.getElem?_eq_none (by rw [mm_fs_len]; omega)]
theorem mm_up_ne {α : Type} {M : Nat → Nat → α} {a k : Nat} {x : α} {b : Nat} (h : b ≠ a) : mm_up M a k x b = M b := by
  funext j; simp [mm_up, h]
theorem mm_up_row {α : Type} {M : Nat → Nat → α} {a k : Nat} {x : α} : mm_up M a k x a = fun j => if j = k then x else M a j := by
  funext j; simp [mm_up]
theorem mm_row_ne {α : Type} {M : Nat → Nat → α} {a : Nat} {f : Nat → α} {b : Nat} (h : b ≠ a) : mm_row M a f b = M b := by
  funext j; simp [mm_row, h]
theorem mm_row_eq {α : Type} {M : Nat → Nat → α} {a : Nat} {f : Nat → α} : mm_row M a f a = f := by
  funext j; simp [mm_row]
/-- locals -/
def mm_lvl (xv : Nat → Value) (bs : Nat) (ls : List (Option Value)) : List (Nat × Value) := (List.range ls.length).filterMap (fun i => match ls[i]? with
  | some (some v) => some (i, mm_cv xv bs v)
  | _ => none)
theorem mm_lvl_mem {xv : Nat → Value} {bs : Nat} {ls : List (Option Value)} {q : Nat × Value} : q ∈ mm_lvl xv bs ls ↔ ∃ v, ls[q.1]? = some (some v) ∧ q.2 = mm_cv xv bs v := by
  unfold mm_lvl
  rw [List.mem_filterMap]
  constructor
  · rintro ⟨i, -, h⟩
    split at h
    · next v hv => cases h; exact ⟨v, hv, rfl⟩
    · cases h
  · rintro ⟨v, h1, h2⟩
    refine ⟨q.1, List.mem_range.mpr (List.getElem?_eq_some_iff.mp h1).1, ?_⟩
    rw [h1]
    show some (q.1, mm_cv xv bs v) = some q
    rw [← h2]
theorem mm_lvl_read {xv : Nat → Value} {bs nL : Nat} {ls : List (Option Value)} {sl : Array Slot} (hl : lv_has sl nL (mm_lvl xv bs ls)) {i : Nat} {v : Value} (h : ls[i]? = some (some v)) : sl[i]? = some (.val (mm_cv xv bs v)) := hl.2.2 (i, mm_cv xv bs v) (mm_lvl_mem.mpr ⟨v, h, rfl⟩)
theorem mm_clr_get {ls : List (Option Value)} {i j : Nat} {v : Value} (h : (mm_clr ls i)[j]? = some (some v)) : ls[j]? = some (some v) ∧ ¬ (j + 1 = i ∧ v.category = 2) := by
  unfold mm_clr at h
  cases i with
  | zero => exact ⟨h, fun z => by omega⟩
  | succ i =>
    simp only at h
    split at h
    · next x hx =>
      cases hb : Nat.beq x.category 2 with
      | true =>
        rw [hb, cond_true] at h
        by_cases e : j = i
        · subst e
          rw [List.getElem?_set_self (List.getElem?_eq_some_iff.mp hx).1] at h
          cases h
        · rw [List.getElem?_set_ne (by omega)] at h
          exact ⟨h, fun z => by omega⟩
      | false =>
        rw [hb, cond_false] at h
        refine ⟨h, fun z => ?_⟩
        have e : j = i := by omega
        subst e
        rw [hx] at h
        cases h
        rw [z.2] at hb
        cases hb
    · next hx =>
      refine ⟨h, fun z => ?_⟩
      have e : j = i := by omega
      subst e
      exact hx v h
theorem mm_clr_len (ls : List (Option Value)) (i : Nat) : (mm_clr ls i).length = ls.length := by
  unfold mm_clr
  cases i with
  | zero => rfl
  | succ i =>
    simp only
    split
    · next x hx => cases Nat.beq x.category 2 <;> simp
    · rfl
theorem mm_lv_st1 {xv : Nat → Value} (hxv : ∀ k, (xv k).category = 1) {bs nL i : Nat} {ls : List (Option Value)} {v : Value} {sl : Array Slot} (h : lv_has sl nL ((i, mm_cv xv bs v) :: (mm_lvl xv bs ls).filter (fun q => !(q.1 == i) && !(q.1 + 1 == i && q.2.category == 2)))) : lv_has sl nL (mm_lvl xv bs (mm_st1 ls i v)) := by
  refine ⟨h.1, h.2.1, fun q hq => h.2.2 q ?_⟩
  obtain ⟨w, h1, h2⟩ := mm_lvl_mem.mp hq
  unfold mm_st1 at h1
  by_cases e : q.1 = i
  · have hl : i < (mm_clr ls i).length := by
      have := (List.getElem?_eq_some_iff.mp h1).1
      rw [List.length_set] at this; omega
    rw [e, List.getElem?_set_self hl] at h1
    cases h1
    exact List.mem_cons.mpr (Or.inl (Prod.ext e h2))
  · rw [List.getElem?_set_ne (fun z => e z.symm)] at h1
    obtain ⟨g1, g2⟩ := mm_clr_get h1
    refine List.mem_cons_of_mem _ (List.mem_filter.mpr ⟨mm_lvl_mem.mpr ⟨w, g1, h2⟩, ?_⟩)
    have hc : q.2.category = w.category := by rw [h2, mm_cv_cat hxv]
    simp only [Bool.and_eq_true, Bool.not_eq_true', beq_eq_false_iff_ne, ne_eq, Bool.and_eq_false_imp, beq_iff_eq]
    exact ⟨e, fun z1 z2 => g2 ⟨z1, by rw [← hc]; exact z2⟩⟩
theorem mm_lv_st2 {xv : Nat → Value} (hxv : ∀ k, (xv k).category = 1) {bs nL i : Nat} {ls : List (Option Value)} {v : Value} {sl : Array Slot} (h : lv_has sl nL ((i, mm_cv xv bs v) :: (mm_lvl xv bs ls).filter (fun q => !(q.1 == i) && (!(q.1 == i + 1) && !(q.1 + 1 == i && q.2.category == 2))))) : lv_has sl nL (mm_lvl xv bs (mm_st2 ls i v)) := by
  refine ⟨h.1, h.2.1, fun q hq => h.2.2 q ?_⟩
  obtain ⟨w, h1, h2⟩ := mm_lvl_mem.mp hq
  unfold mm_st2 at h1
  by_cases e : q.1 = i
  · have hl : i < ((mm_clr ls i).set (i + 1) none).length := by
      have := (List.getElem?_eq_some_iff.mp h1).1
      rw [List.length_set] at this; omega
    rw [e, List.getElem?_set_self hl] at h1
    cases h1
    exact List.mem_cons.mpr (Or.inl (Prod.ext e h2))
  · rw [List.getElem?_set_ne (fun z => e z.symm)] at h1
    by_cases e1 : q.1 = i + 1
    · have hl : i + 1 < (mm_clr ls i).length := by
        have := (List.getElem?_eq_some_iff.mp h1).1
        rw [List.length_set] at this; omega
      rw [e1, List.getElem?_set_self hl] at h1
      cases h1
    · rw [List.getElem?_set_ne (fun z => e1 z.symm)] at h1
      obtain ⟨g1, g2⟩ := mm_clr_get h1
      refine List.mem_cons_of_mem _ (List.mem_filter.mpr ⟨mm_lvl_mem.mpr ⟨w, g1, h2⟩, ?_⟩)
      have hc : q.2.category = w.category := by rw [h2, mm_cv_cat hxv]
      simp only [Bool.and_eq_true, Bool.not_eq_true', beq_eq_false_iff_ne, ne_eq, Bool.and_eq_false_imp, beq_iff_eq]
      exact ⟨e, e1, fun z1 z2 => g2 ⟨z1, by rw [← hc]; exact z2⟩⟩
