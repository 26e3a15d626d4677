/-! One step of the small machine is a step of the machine. -/
def mm_tx1 : String := "water current iron board load heat flood draw by at wide bears or and not row column strokes hot "
def mm_tx2 : String := ";()<>=+-*/%"
def mm_Ext (bs : Nat) (xv : Nat → Value) (s : State) : Prop := ∃ adK adV : Nat → Nat,
  vk_S 2 [mm_sb1.length, mm_sb2.length] [mm_sb1, mm_sb2] adK adV (mm_A bs) s s.heap ∧ vk_R RX4 23 mm_tx1 (adK 0) s ∧ vk_R RX4 103 mm_tx2 (adK 1) s ∧
  xv 1 = .ref (adK 0) ∧ xv 2 = .ref (adK 1) ∧ xv 3 = .ref (adV 0) ∧ xv 4 = .ref (adV 1) ∧
  va_Z "java/lang/String" "COMPACT_STRINGS" "Z" (.int 1) (mm_A bs) s s.heap ∧ va_Z "jdk/internal/util/Preconditions" "SIOOBE_FORMATTER" "Ljava/util/function/BiFunction;" (xv 5) (mm_A bs) s s.heap
def mm_Scr (bs : Nat) (xv : Nat → Value) (X : mm_X) (s : State) : Prop := match X with
  | none => True
  | some x => ∃ b : Nat, xv 0 = .ref b ∧ va_X b x.1 x.2 s s.heap ∧ b ≤ bs
def mm_Ctx (p : Program) (s : State) (mid : MethodId) (args : Array Value) (meth : Method) (c : Code) (m bs : Nat) (cs : Nat → ClassId) (xv : Nat → Value) (X : mm_X) (D : va_G) : Prop :=
  p.tables.exec = Jvm.exec ∧ c.code = mm_b m ∧ c.maxLocals = mm_maxL m ∧ s.vm.findClass (mm_on (mm_own m)) = some mid.cls ∧ (∀ w ∈ mm_TT, w.before args s = true) ∧ (∀ w ∈ mm_nw, va_Nw w s) ∧ va_K D vwCl (mm_tys cs) s ∧ bs < s.heap.size ∧ m < 351 ∧ (mm_isI m = true → meth.name = "<init>") ∧ (∀ k, (xv k).category = 1) ∧ (∀ k, xv k = .null ∨ ∃ a, xv k = .ref a) ∧ mm_Ext bs xv s ∧ mm_Scr bs xv X s
def mm_Dyn (s : State) (m bs : Nat) (cs : Nat → ClassId) (xv : Nat → Value) (D : va_G) (ls : List (Option Value)) (h : mm_H) (sl : Array Slot) (H : Heap) (locs : List Loc) : Prop :=
  H.size = bs + h.1 ∧ 0 < h.1 ∧ va_P D vwCl (mm_ws bs cs h) H ∧ va_S (mm_A bs) s.heap H locs ∧ lv_has sl (mm_maxL m) (mm_lvl xv bs ls)
theorem mm_at_ok {m pc len : Nat} {i : Instr} (hm : m < 351) (h : mm_at m pc = some (len, i)) : decode (mm_b m) pc = .ok (i, len) ∧ (mm_sw i = true ∨ len = mm_ln i) ∧ mm_ix2 i = true := by
  unfold mm_at at h
  cases hb : Nat.beq ((mm_cd m).get pc).1 pc with
  | false => rw [hb] at h; cases h
  | true =>
    rw [hb] at h
    have e1 : ((mm_cd m).get pc).1 = pc := Nat.eq_of_beq_eq_true hb
    have e2 : ((mm_cd m).get pc).2 = (len, i) := Option.some.inj h
    have h1 := mm_lv_get (mm_cd m) pc
    rw [show (mm_cd m).get pc = (pc, len, i) from Prod.ext e1 e2] at h1
    have h2 := List.all_eq_true.mp (mm_ok_all m hm) _ h1
    simp only [Bool.and_eq_true, decide_eq_true_eq, Bool.or_eq_true, Nat.beq_eq] at h2
    exact ⟨h2.1.1, h2.1.2, h2.2⟩
theorem mm_nx_inj {pc pc' : Nat} {ls ls' : List (Option Value)} {st st' : List Value} {h h' : mm_H} (e : mm_nx pc ls st h = some (.inl ((pc', ls', st'), h'))) : pc = pc' ∧ ls = ls' ∧ st = st' ∧ h = h' := by
  unfold mm_nx at e
  cases e
  exact ⟨rfl, rfl, rfl, rfl⟩
theorem mm_b2_inv {pc pc' : Nat} {ls ls' : List (Option Value)} {st st' : List Value} {h h' : mm_H} {g : Int32 → Int32 → Int32} (e : mm_b2 pc ls st h g = some (.inl ((pc', ls', st'), h'))) : ∃ x y r, st = .int y :: .int x :: r ∧ pc + 1 = pc' ∧ ls = ls' ∧ .int (g x y) :: r = st' ∧ h = h' := by
  unfold mm_b2 at e
  split at e
  · next y x r => exact ⟨x, y, r, rfl, mm_nx_inj e⟩
  · cases e
theorem mm_d2_inv {pc pc' : Nat} {ls ls' : List (Option Value)} {st st' : List Value} {h h' : mm_H} {g : Int32 → Int32 → Int32} (e : mm_d2 pc ls st h g = some (.inl ((pc', ls', st'), h'))) : ∃ x y r, st = .int y :: .int x :: r ∧ ¬ y = 0 ∧ pc + 1 = pc' ∧ ls = ls' ∧ .int (g x y) :: r = st' ∧ h = h' := by
  unfold mm_d2 at e
  split at e
  · next y x r =>
    by_cases hy : y = 0
    · rw [if_pos hy] at e; cases e
    · rw [if_neg hy] at e; exact ⟨x, y, r, rfl, hy, mm_nx_inj e⟩
  · cases e
theorem mm_j2_inv {pc pc' : Nat} {ls ls' : List (Option Value)} {st st' : List Value} {h h' : mm_H} {g : Int64 → Int64 → Value} (e : mm_j2 pc ls st h g = some (.inl ((pc', ls', st'), h'))) : ∃ x y r, st = .long y :: .long x :: r ∧ pc + 1 = pc' ∧ ls = ls' ∧ g x y :: r = st' ∧ h = h' := by
  unfold mm_j2 at e
  split at e
  · next y x r => exact ⟨x, y, r, rfl, mm_nx_inj e⟩
  · cases e
theorem mm_u1_inv {pc pc' : Nat} {ls ls' : List (Option Value)} {st st' : List Value} {h h' : mm_H} {g : Int32 → Value} (e : mm_u1 pc ls st h g = some (.inl ((pc', ls', st'), h'))) : ∃ x r, st = .int x :: r ∧ pc + 1 = pc' ∧ ls = ls' ∧ g x :: r = st' ∧ h = h' := by
  unfold mm_u1 at e
  split at e
  · next x r => exact ⟨x, r, rfl, mm_nx_inj e⟩
  · cases e
theorem mm_pu_inv {pc len pc' : Nat} {ls ls' : List (Option Value)} {st st' : List Value} {h h' : mm_H} {o : Option Value} (e : mm_pu pc len ls st h o = some (.inl ((pc', ls', st'), h'))) : ∃ v, o = some v ∧ pc + len = pc' ∧ ls = ls' ∧ v :: st = st' ∧ h = h' := by
  unfold mm_pu at e
  split at e
  · next v => exact ⟨v, rfl, mm_nx_inj e⟩
  · cases e
theorem mm_gI_inv {o : Option (Option Value)} {v : Value} (e : (mm_gI o).map .int = some v) : ∃ x, o = some (some (.int x)) ∧ v = .int x := by
  unfold mm_gI at e
  split at e
  · next x => cases e; exact ⟨x, rfl, rfl⟩
  · cases e
theorem mm_gI_inv' {o : Option (Option Value)} {x : Int32} (e : mm_gI o = some x) : o = some (some (.int x)) := by
  unfold mm_gI at e
  split at e
  · cases e; rfl
  · cases e
theorem mm_gL_inv {o : Option (Option Value)} {v : Value} (e : (mm_gL o).map .long = some v) : ∃ x, o = some (some (.long x)) ∧ v = .long x := by
  unfold mm_gL at e
  split at e
  · next x => cases e; exact ⟨x, rfl, rfl⟩
  · cases e
theorem mm_gA_inv {o : Option (Option Value)} {v : Value} (e : mm_gA o = some v) : o = some (some v) ∧ ((∃ a, v = .ref a) ∨ ∃ k, v = .retAddr k) := by
  unfold mm_gA at e
  split at e
  · next x => cases e; exact ⟨rfl, Or.inl ⟨x, rfl⟩⟩
  · next x => cases e; exact ⟨rfl, Or.inr ⟨x, rfl⟩⟩
  · cases e
theorem mm_cv_A {xv : Nat → Value} {bs : Nat} (hxr : ∀ k, xv k = .null ∨ ∃ a, xv k = .ref a) {v : Value} (h : (∃ a, v = .ref a) ∨ ∃ k, v = .retAddr k) : mm_cv xv bs v = .null ∨ ∃ a, mm_cv xv bs v = .ref a := by
  rcases h with ⟨a, rfl⟩ | ⟨k, rfl⟩
  · cases a with
    | zero => exact Or.inl rfl
    | succ a => exact Or.inr ⟨_, rfl⟩
  · exact hxr k
theorem mm_tg_inv {pc : Nat} {off : Int} {t : Nat} (e : mm_tg pc off = some t) : (pc : Int) + off = (t : Int) := by
  unfold mm_tg at e
  split at e
  · next u hu => cases e; exact hu
  · cases e
theorem mm_go_inv {t : Option Nat} {pc' : Nat} {ls ls' : List (Option Value)} {st st' : List Value} {h h' : mm_H} (e : mm_go t ls st h = some (.inl ((pc', ls', st'), h'))) : t = some pc' ∧ ls = ls' ∧ st = st' ∧ h = h' := by
  unfold mm_go at e
  split at e
  · next u => obtain ⟨rfl, h2⟩ := mm_nx_inj e; exact ⟨rfl, h2⟩
  · cases e
theorem mm_br_inv {q : Prop} [Decidable q] {t : Option Nat} {e0 pc' : Nat} {sw : Bool} {ls ls' : List (Option Value)} {st st' : List Value} {h h' : mm_H} (e : mm_br q t e0 sw ls st h = some (.inl ((pc', ls', st'), h'))) : ∃ u, t = some u ∧ ((q ∧ pc' = cond sw e0 u) ∨ (¬ q ∧ pc' = cond sw u e0)) ∧ ls = ls' ∧ st = st' ∧ h = h' := by
  unfold mm_br at e
  split at e
  · next u =>
    by_cases hq : q
    · rw [if_pos hq] at e
      obtain ⟨a, b⟩ := mm_nx_inj e
      exact ⟨u, rfl, Or.inl ⟨hq, a.symm⟩, b⟩
    · rw [if_neg hq] at e
      obtain ⟨a, b⟩ := mm_nx_inj e
      exact ⟨u, rfl, Or.inr ⟨hq, a.symm⟩, b⟩
  · cases e
