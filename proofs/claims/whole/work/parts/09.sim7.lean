/-- a step that stays in its frame and makes no cell -/
def mm_smp (x : mm_R) (h : mm_H) : Prop := ∀ y, x = some y → ∃ f' h', y = .inl (f', h') ∧ h'.1 = h.1
theorem mm_smp_none {h : mm_H} : mm_smp none h := fun y e => by cases e
theorem mm_smp_nx {pc : Nat} {ls : List (Option Value)} {st : List Value} {h h' : mm_H} (e : h'.1 = h.1) : mm_smp (mm_nx pc ls st h') h := fun y z => by
  unfold mm_nx at z; cases z; exact ⟨_, _, rfl, e⟩
theorem mm_smp_cond {b : Bool} {x : mm_R} {h : mm_H} (e : mm_smp x h) : mm_smp (cond b x none) h := by
  cases b
  · exact mm_smp_none
  · exact e
theorem mm_smp_ite {q : Prop} [Decidable q] {x y : mm_R} {h : mm_H} (e : mm_smp x h) (e2 : mm_smp y h) : mm_smp (if q then x else y) h := by
  by_cases hq : q
  · rw [if_pos hq]; exact e
  · rw [if_neg hq]; exact e2
theorem mm_smp_ix {i : Int32} {n : Nat} {k : Nat → mm_R} {h : mm_H} (e : ∀ j, mm_smp (k j) h) : mm_smp (mm_ix i n k) h := by
  unfold mm_ix
  exact mm_smp_ite mm_smp_none (e _)
section MMS7
variable {X : mm_X} {m pc len : Nat} {ls : List (Option Value)} {st : List Value} {h : mm_H}
theorem mm_smp_pu {o : Option Value} : mm_smp (mm_pu pc len ls st h o) h := by
  unfold mm_pu; split
  · exact mm_smp_nx rfl
  · exact mm_smp_none
theorem mm_smp_b2 {g : Int32 → Int32 → Int32} : mm_smp (mm_b2 pc ls st h g) h := by
  unfold mm_b2; split
  · exact mm_smp_nx rfl
  · exact mm_smp_none
theorem mm_smp_d2 {g : Int32 → Int32 → Int32} : mm_smp (mm_d2 pc ls st h g) h := by
  unfold mm_d2; split
  · exact mm_smp_ite mm_smp_none (mm_smp_nx rfl)
  · exact mm_smp_none
theorem mm_smp_j2 {g : Int64 → Int64 → Value} : mm_smp (mm_j2 pc ls st h g) h := by
  unfold mm_j2; split
  · exact mm_smp_nx rfl
  · exact mm_smp_none
theorem mm_smp_u1 {g : Int32 → Value} : mm_smp (mm_u1 pc ls st h g) h := by
  unfold mm_u1; split
  · exact mm_smp_nx rfl
  · exact mm_smp_none
theorem mm_smp_br {q : Prop} [Decidable q] {t : Option Nat} {e0 : Nat} {sw : Bool} : mm_smp (mm_br q t e0 sw ls st h) h := by
  unfold mm_br; split
  · exact mm_smp_ite (mm_smp_nx rfl) (mm_smp_nx rfl)
  · exact mm_smp_none
theorem mm_smp_if1 {cn : ClassFile.Cond} {x : Int32} {t : Option Nat} {e0 : Nat} : mm_smp (mm_if1 cn x t e0 ls st h) h := by
  unfold mm_if1; cases cn <;> exact mm_smp_br
theorem mm_smp_if2 {cn : ClassFile.Cond} {x y : Int32} {t : Option Nat} {e0 : Nat} : mm_smp (mm_if2 cn x y t e0 ls st h) h := by
  unfold mm_if2; cases cn <;> exact mm_smp_br
theorem mm_smp_go {t : Option Nat} : mm_smp (mm_go t ls st h) h := by
  unfold mm_go; split
  · exact mm_smp_nx rfl
  · exact mm_smp_none
theorem mm_smp_gf {o : Option (Nat × Nat)} : mm_smp (mm_gf pc ls st h o) h := by
  unfold mm_gf; split
  · split
    · refine mm_smp_cond ?_
      split
      · exact mm_smp_pu
      · exact mm_smp_none
    · refine mm_smp_cond ?_
      split
      · exact mm_smp_nx rfl
      · exact mm_smp_nx rfl
      · exact mm_smp_none
    · exact mm_smp_none
  · exact mm_smp_none
theorem mm_smp_pf {ini : Nat → Bool} {o : Option (Nat × Nat)} : mm_smp (mm_pf ini pc ls st h o) h := by
  unfold mm_pf; split
  · split
    · refine mm_smp_cond ?_
      split
      · next kd fin _ =>
        generalize (Nat.beq fin 1 && !ini _) = b9
        cases b9
        · rw [cond_false]
          split
          · exact mm_smp_nx rfl
          · exact mm_smp_nx rfl
          · exact mm_smp_nx rfl
          · exact mm_smp_ite (mm_smp_nx rfl) mm_smp_none
          · exact mm_smp_none
        · rw [cond_true]; exact mm_smp_none
      · exact mm_smp_none
    · exact mm_smp_none
  · exact mm_smp_none
theorem mm_smp_ald {byt : Bool} : mm_smp (mm_ald pc ls st h X byt) h := by
  unfold mm_ald; split
  · exact mm_smp_cond (mm_smp_ix fun j => mm_smp_nx rfl)
  · split
    · split
      · exact mm_smp_ix fun j => mm_smp_nx rfl
      · exact mm_smp_none
    · exact mm_smp_ix fun j => mm_smp_nx rfl
    · exact mm_smp_ix fun j => mm_smp_nx rfl
    · exact mm_smp_none
  · exact mm_smp_none
theorem mm_smp_ast {kd : Nat} {nar : Int32 → Int32} : mm_smp (mm_ast pc ls st h kd nar) h := by
  unfold mm_ast; split
  · exact mm_smp_cond (mm_smp_ix fun j => mm_smp_nx rfl)
  · exact mm_smp_none
theorem mm_smp_lald : mm_smp (mm_lald pc ls st h) h := by
  unfold mm_lald; split
  · exact mm_smp_cond (mm_smp_ix fun j => mm_smp_nx rfl)
  · exact mm_smp_none
theorem mm_smp_last : mm_smp (mm_last pc ls st h) h := by
  unfold mm_last; split
  · exact mm_smp_cond (mm_smp_ix fun j => mm_smp_nx rfl)
  · exact mm_smp_none
theorem mm_smp_alen : mm_smp (mm_alen pc ls st h X) h := by
  unfold mm_alen; split
  · exact mm_smp_cond (mm_smp_nx rfl)
  · split
    · exact mm_smp_nx rfl
    · exact mm_smp_none
  · exact mm_smp_none
theorem mm_smp_copy : mm_smp (mm_copy pc ls st h) h := by
  unfold mm_copy; split
  · exact mm_smp_cond (mm_smp_ite mm_smp_none (mm_smp_nx rfl))
  · exact mm_smp_none
/-- which instructions are simple: 0 simple, 1 makes a cell, 2 calls, 3 answers -/
def mm_knd (i : Instr) : Nat := match i with
  | .new _ | .newarray _ => 1
  | .invokevirtual _ | .invokestatic _ | .invokespecial _ => 2
  | .ireturn | .lreturn | .return_ => 3
  | _ => 0
set_option maxHeartbeats 4000000 in
theorem mm_do_smp {i : Instr} (hi : mm_knd i = 0) : mm_smp (mm_do X m i pc ls st h) h := by
  cases i
  case new => cases hi
  case newarray => cases hi
  case invokevirtual => cases hi
  case invokestatic => cases hi
  case invokespecial => cases hi
  case ireturn => cases hi
  case lreturn => cases hi
  case return_ => cases hi
  case istore n => simp only [mm_do]; split <;> first | exact mm_smp_cond (mm_smp_nx rfl) | exact mm_smp_none
  case istore_n n => simp only [mm_do]; split <;> first | exact mm_smp_cond (mm_smp_nx rfl) | exact mm_smp_none
  case astore n => simp only [mm_do]; split <;> first | exact mm_smp_cond (mm_smp_nx rfl) | exact mm_smp_none
  case astore_n n => simp only [mm_do]; split <;> first | exact mm_smp_cond (mm_smp_nx rfl) | exact mm_smp_none
  case lstore n => simp only [mm_do]; split <;> first | exact mm_smp_cond (mm_smp_nx rfl) | exact mm_smp_none
  case lstore_n n => simp only [mm_do]; split <;> first | exact mm_smp_cond (mm_smp_nx rfl) | exact mm_smp_none
  case ldc k => simp only [mm_do]; split <;> first | exact mm_smp_nx rfl | exact mm_smp_pu
  case iinc n k => simp only [mm_do]; split <;> first | exact mm_smp_cond (mm_smp_nx rfl) | exact mm_smp_none
  case lshl => simp only [mm_do]; split <;> first | exact mm_smp_nx rfl | exact mm_smp_none
  case ifCond cn off => simp only [mm_do]; split <;> first | exact mm_smp_if1 | exact mm_smp_none
  case if_icmp cn off => simp only [mm_do]; split <;> first | exact mm_smp_if2 | exact mm_smp_none
  case tableswitch d lo hi offs =>
    simp only [mm_do]; split
    · refine mm_smp_ite mm_smp_go ?_
      split <;> first | exact mm_smp_go | exact mm_smp_none
    · exact mm_smp_none
  case lookupswitch d ps => simp only [mm_do]; split <;> first | exact mm_smp_cond mm_smp_go | exact mm_smp_none
  case dup => simp only [mm_do]; split <;> first | exact mm_smp_cond (mm_smp_nx rfl) | exact mm_smp_none
  case dup2 => simp only [mm_do]; split <;> first | exact mm_smp_cond (mm_smp_nx rfl) | exact mm_smp_none
  case pop => simp only [mm_do]; split <;> first | exact mm_smp_cond (mm_smp_nx rfl) | exact mm_smp_none
  case getstatic k => simp only [mm_do]; split <;> first | exact mm_smp_nx rfl | exact mm_smp_none
  case bastore =>
    simp only [mm_do]; split
    · next a r => cases Nat.beq (mm_sh _).1 2 <;> exact mm_smp_ast
    · exact mm_smp_none
  all_goals first | exact mm_smp_none | exact mm_smp_nx rfl | exact mm_smp_pu | exact mm_smp_b2 | exact mm_smp_d2 | exact mm_smp_j2 | exact mm_smp_u1 | exact mm_smp_go | exact mm_smp_gf | exact mm_smp_pf | exact mm_smp_ald | exact mm_smp_ast | exact mm_smp_lald | exact mm_smp_last | exact mm_smp_alen
/-- what a call's instruction says -/
def mm_Call (m pc : Nat) (i : Instr) (ls : List (Option Value)) (st : List Value) (h : mm_H) (t : Nat) (as : List Value) (f' : mm_F) : Prop :=
  ∃ rest : List Value, f' = (pc + 3, ls, rest) ∧ st = as.reverse ++ rest ∧ mm_cat rest ≤ 8 ∧ (mm_sl as).length ≤ mm_maxL t ∧ t < 350 ∧ as.length = mm_na t ∧
    ∃ k kd, mm_lk mm_ml (mm_own m * 2000 + k) = some (kd, t) ∧ ((i = .invokevirtual k ∧ (kd = 0 ∨ kd = 1) ∧ mm_rcv t as h = true) ∨ (i = .invokestatic k ∧ (kd = 2 ∨ kd = 3)) ∨ (i = .invokespecial k ∧ (kd = 4 ∨ kd = 5) ∧ ∃ a as', as = .ref a :: as' ∧ 0 < a ∧ a < h.1))
theorem mm_call_inv {kinds : Nat → Bool} {o : Option (Nat × Nat)} {y : (mm_F × mm_H) ⊕ (Option Value) ⊕ (Nat × List Value × mm_F)} (e : mm_call pc ls st h kinds o = some y) : ∃ t as kd rest, y = .inr (.inr (t, as, (pc + 3, ls, rest))) ∧ o = some (kd, t) ∧ kinds kd = true ∧ st = as.reverse ++ rest ∧ mm_cat rest ≤ 8 ∧ (mm_sl as).length ≤ mm_maxL t ∧ t < 350 ∧ as.length = mm_na t ∧ ((kd = 2 ∨ kd = 3) ∨ mm_rcv t as h = true) := by
  unfold mm_call at e
  split at e
  · next kd t =>
    obtain ⟨g, e⟩ := mm_cond_inv e
    cases e
    simp only [Bool.and_eq_true, Bool.or_eq_true] at g
    obtain ⟨⟨⟨⟨⟨g1, g2⟩, g3⟩, g4⟩, g5⟩, g6⟩ := g
    have g3 : mm_na t ≤ st.length := Nat.le_of_ble_eq_true g3
    refine ⟨t, (st.take (mm_na t)).reverse, kd, st.drop (mm_na t), rfl, rfl, g1, ?_, Nat.le_of_ble_eq_true g4, Nat.le_of_ble_eq_true g5, Nat.le_of_ble_eq_true g2, ?_, ?_⟩
    · rw [List.reverse_reverse, List.take_append_drop]
    · rw [List.length_reverse, List.length_take]; omega
    · rcases g6 with ⟨g6, g7⟩ | g6
      · have g6 : 1 < kd := Nat.le_of_ble_eq_true g6
        have g7 : kd < 4 := Nat.le_of_ble_eq_true g7
        left; omega
      · right; exact g6
  · cases e
theorem mm_do_call {i : Instr} {y : (mm_F × mm_H) ⊕ (Option Value) ⊕ (Nat × List Value × mm_F)} (hi : mm_knd i = 2) (e : mm_do X m i pc ls st h = some y) : (∃ t as f', y = .inr (.inr (t, as, f')) ∧ mm_Call m pc i ls st h t as f') ∨ (∃ k t, i = .invokestatic k ∧ mm_lk mm_ml (mm_own m * 2000 + k) = some (6, t) ∧ mm_copy pc ls st h = some y) := by
  cases i
  case invokevirtual k =>
    left
    obtain ⟨t, as, kd, rest, rfl, ho, g1, g2, g3, g4, g5, g6, g7⟩ := mm_call_inv e
    have g1 : kd = 0 ∨ kd = 1 := by simpa using g1
    refine ⟨t, as, _, rfl, rest, rfl, g2, g3, g4, g5, g6, k, kd, ho, Or.inl ⟨rfl, g1, ?_⟩⟩
    rcases g7 with g7 | g7
    · omega
    · exact g7
  case invokestatic k =>
    simp only [mm_do] at e
    unfold mm_static at e
    split at e
    · next t ho => right; exact ⟨k, t, rfl, ho, e⟩
    · next ho =>
      left
      obtain ⟨t, as, kd, rest, rfl, ho, g1, g2, g3, g4, g5, g6, g7⟩ := mm_call_inv e
      have g1 : kd = 2 ∨ kd = 3 := by simpa using g1
      exact ⟨t, as, _, rfl, rest, rfl, g2, g3, g4, g5, g6, k, kd, ho, Or.inr (Or.inl ⟨rfl, g1⟩)⟩
  case invokespecial k =>
    left
    simp only [mm_do] at e
    unfold mm_special at e
    split at e
    · next kd t ho =>
      obtain ⟨g, e⟩ := mm_cond_inv e
      simp only [Bool.and_eq_true, Bool.or_eq_true, Nat.beq_eq] at g
      obtain ⟨⟨⟨⟨g1, g2⟩, g3⟩, g4⟩, g5⟩ := g
      split at e
      · next a as has =>
        obtain ⟨g6, e⟩ := mm_cond_inv e
        cases e
        simp only [Bool.and_eq_true] at g6
        have g3 : mm_na t ≤ st.length := Nat.le_of_ble_eq_true g3
        refine ⟨t, .ref a :: as, _, rfl, st.drop (mm_na t), rfl, ?_, Nat.le_of_ble_eq_true g4, by rw [← has]; exact Nat.le_of_ble_eq_true g5, Nat.le_of_ble_eq_true g2, ?_, k, kd, ho, Or.inr (Or.inr ⟨rfl, g1, a, as, rfl, Nat.le_of_ble_eq_true g6.1, Nat.le_of_ble_eq_true g6.2⟩)⟩
        · rw [← has, List.reverse_reverse, List.take_append_drop]
        · rw [← has, List.length_reverse, List.length_take]; omega
      · cases e
    · cases e
  all_goals cases hi
theorem mm_do_ret {i : Instr} {y : (mm_F × mm_H) ⊕ (Option Value) ⊕ (Nat × List Value × mm_F)} (hm : m < 351) (hat : mm_at m pc = some (len, i)) (hi : mm_knd i = 3) (e : mm_do X m i pc ls st h = some y) : ∃ r, y = .inr (.inl r) ∧ st = r.toList ∧ mm_RO m r pc := by
  obtain ⟨hdec, hlen, hix⟩ := mm_at_ok hm hat
  cases i
  case ireturn =>
    have hl1 : len = 1 := by rcases hlen with g | g; cases g; exact g
    subst hl1
    simp only [mm_do] at e
    unfold mm_ret at e
    split at e
    · next x =>
      have key : ∀ ty, mm_rt (mm_rk m) = some ty → narrow ty (.int x) = .int x → ∃ r, (Sum.inr (Sum.inl (some (Value.int x))) : (mm_F × mm_H) ⊕ (Option Value) ⊕ (Nat × List Value × mm_F)) = .inr (.inl r) ∧ [Value.int x] = r.toList ∧ mm_RO m r pc := fun ty g1 g2 => ⟨_, rfl, rfl, hdec, ty, g1, g2⟩
      split at e
      · next hk => cases e; exact key .int (by rw [hk]; rfl) rfl
      · next hk =>
        by_cases hx : x = 0 ∨ x = 1
        · rw [if_pos hx] at e; cases e
          exact key .boolean (by rw [hk]; rfl) (by rcases hx with rfl | rfl <;> rfl)
        · rw [if_neg hx] at e; cases e
      · next hk =>
        by_cases hx : vp_nar .char x = x
        · rw [if_pos hx] at e; cases e
          refine key .char (by rw [hk]; rfl) ?_
          have : narrow .char (.int x) = .int (vp_nar .char x) := rfl
          rw [this, hx]
        · rw [if_neg hx] at e; cases e
      · next hk =>
        by_cases hx : vp_nar .byte x = x
        · rw [if_pos hx] at e; cases e
          refine key .byte (by rw [hk]; rfl) ?_
          have : narrow .byte (.int x) = .int (vp_nar .byte x) := rfl
          rw [this, hx]
        · rw [if_neg hx] at e; cases e
      · cases e
    · cases e
  case lreturn =>
    have hl1 : len = 1 := by rcases hlen with g | g; cases g; exact g
    subst hl1
    simp only [mm_do] at e
    split at e
    · next x =>
      obtain ⟨g, e⟩ := mm_cond_inv e
      cases e
      exact ⟨_, rfl, rfl, hdec, by rw [Nat.eq_of_beq_eq_true g]; rfl⟩
    · cases e
  case return_ =>
    have hl1 : len = 1 := by rcases hlen with g | g; cases g; exact g
    subst hl1
    simp only [mm_do] at e
    split at e
    · obtain ⟨g, e⟩ := mm_cond_inv e
      cases e
      exact ⟨_, rfl, rfl, hdec, by rw [Nat.eq_of_beq_eq_true g]; rfl⟩
    · cases e
  all_goals cases hi
theorem mm_do_new {i : Instr} {y : (mm_F × mm_H) ⊕ (Option Value) ⊕ (Nat × List Value × mm_F)} (hi : mm_knd i = 1) (e : mm_do X m i pc ls st h = some y) : ∃ f' h', y = .inl (f', h') ∧ h'.1 = h.1 + 1 ∧ ((∃ k, i = .new k) ∨ ∃ ty, i = .newarray ty) := by
  have key : ∀ (len : Nat) (r : List Value) (sh : Nat × Nat), mm_new pc len ls r h sh = some y → ∃ f' h', y = .inl (f', h') ∧ h'.1 = h.1 + 1 := by
    intro len r sh e
    unfold mm_new at e
    obtain ⟨-, e⟩ := mm_cond_inv e
    unfold mm_nx at e
    cases e
    exact ⟨_, _, rfl, rfl⟩
  cases i
  case new k =>
    simp only [mm_do] at e
    split at e
    · obtain ⟨f', h', g1, g2⟩ := key _ _ _ e; exact ⟨f', h', g1, g2, Or.inl ⟨k, rfl⟩⟩
    · cases e
  case newarray ty =>
    simp only [mm_do] at e
    split at e
    · split at e
      · cases e
      · split at e
        · obtain ⟨f', h', g1, g2⟩ := key _ _ _ e; exact ⟨f', h', g1, g2, Or.inr ⟨_, rfl⟩⟩
        · obtain ⟨f', h', g1, g2⟩ := key _ _ _ e; exact ⟨f', h', g1, g2, Or.inr ⟨_, rfl⟩⟩
        · obtain ⟨f', h', g1, g2⟩ := key _ _ _ e; exact ⟨f', h', g1, g2, Or.inr ⟨_, rfl⟩⟩
        · obtain ⟨f', h', g1, g2⟩ := key _ _ _ e; exact ⟨f', h', g1, g2, Or.inr ⟨_, rfl⟩⟩
        · cases e
    · cases e
  all_goals cases hi
theorem mm_knd_le (i : Instr) : mm_knd i = 0 ∨ mm_knd i = 1 ∨ mm_knd i = 2 ∨ mm_knd i = 3 := by
  unfold mm_knd; split <;> simp
theorem mm_stp_inv {f : mm_F} {y : (mm_F × mm_H) ⊕ (Option Value) ⊕ (Nat × List Value × mm_F)} (e : mm_stp X m f h = some y) : ∃ len i, mm_at m f.1 = some (len, i) ∧ mm_do X m i f.1 f.2.1 f.2.2 h = some y := by
  unfold mm_stp at e
  split at e
  · next len i hat => exact ⟨len, i, hat, e⟩
  · cases e
theorem mm_stp_na {f f' : mm_F} {h' : mm_H} (e : mm_stp X m f h = some (.inl (f', h'))) : h.1 ≤ h'.1 := by
  obtain ⟨len, i, -, e⟩ := mm_stp_inv e
  rcases mm_knd_le i with hk | hk | hk | hk
  · obtain ⟨_, _, g1, g2⟩ := mm_do_smp hk _ e
    cases g1; omega
  · obtain ⟨_, _, g1, g2, -⟩ := mm_do_new hk e
    cases g1; omega
  · rcases mm_do_call hk e with ⟨_, _, _, g1, -⟩ | ⟨_, _, -, -, g1⟩
    · cases g1
    · obtain ⟨_, _, g2, g3⟩ := mm_smp_copy _ g1
      cases g2; omega
  · exfalso
    cases i <;> first | (cases hk; done) | skip
    · simp only [mm_do, mm_ret] at e
      split at e
      · split at e <;> first | (cases e; done) | (split at e <;> cases e)
      · cases e
    · simp only [mm_do] at e
      split at e
      · obtain ⟨-, e⟩ := mm_cond_inv e; cases e
      · cases e
    · simp only [mm_do] at e
      split at e
      · obtain ⟨-, e⟩ := mm_cond_inv e; cases e
      · cases e
end MMS7
theorem mm_ev_na : ∀ (n : Nat) (X : mm_X) (d m : Nat) (f : mm_F) (h : mm_H) (r : Option Value) (h' : mm_H), mm_ev X n d m f h = some (r, h') → h.1 ≤ h'.1
  | 0, X, d, m, f, h, r, h', e => by simp [mm_ev] at e
  | n + 1, X, d, m, f, h, r, h', e => by
    rw [mm_ev] at e
    split at e
    · next f1 h1 hs => exact Nat.le_trans (mm_stp_na hs) (mm_ev_na n X d m f1 h1 r h' e)
    · next v hs => cases e; exact Nat.le_refl _
    · next t as f1 hs =>
      cases d with
      | zero => simp at e
      | succ d =>
        try dsimp only at e
        split at e
        · next v h2 hc => exact Nat.le_trans (mm_ev_na n none d t _ h v h2 hc) (mm_ev_na n X (d + 1) m _ h2 r h' e)
        · simp at e
    · simp at e
